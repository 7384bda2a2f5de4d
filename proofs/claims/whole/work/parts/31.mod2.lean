/-! isSame, endsBelow, isNew, lay -/
section MC
variable {m : zM}
theorem isSame_spec (h : zTm m) {i j k : Int} (hi : 0 ≤ i) (hj : 0 ≤ j) (hk : 0 ≤ k) (hn : i + k ≤ m 0 0) (hn2 : j + k ≤ m 0 0) : ∃ r, FX6_isSame i j k m = some r ∧ zyn r (zs (zx m) i j k) := by
  obtain ⟨n0, n1, n2⟩ := h
  have hw := wl_all (FX6_isSame_L6 i j k m (fun y6_4 y6_5 => zgd (y6_4 = 0 ∨ y6_4 = 1) <| some y6_4)) (fun y6_4 y6_5 => zgd (y6_4 = 0 ∨ y6_4 = 1) <| some y6_4) (fun d => zx m (i + d) = zx m (j + d)) 0 k
    (fun f d d0 d1 => by
      have a1 := n2 (i + d) (by omega) (by omega)
      have a2 := n2 (j + d) (by omega) (by omega)
      constructor
      · intro c
        rw [FX6_isSame_L6_s]
        unfold FX6_isSame_L6_B
        rw [if_pos (zlt_i (by omega)), if_neg zI_ne10, zrd_p ⟨by omega, by omega⟩, zrd_p ⟨by omega, by omega⟩, if_pos (by unfold zx at c; exact congrArg zI (by omega))]
      · intro c
        rw [FX6_isSame_L6_s]
        unfold FX6_isSame_L6_B
        rw [if_pos (zlt_i (by omega)), if_neg zI_ne10, zrd_p ⟨by omega, by omega⟩, zrd_p ⟨by omega, by omega⟩, if_neg (zne_i ⟨by omega, by omega, by omega, by omega, fun q => c (by unfold zx; omega)⟩)])
    (fun f is => by
      rw [FX6_isSame_L6_s]
      unfold FX6_isSame_L6_B
      rw [if_neg (znlt_i (by omega))])
    (fun f d d0 d1 => by
      rw [FX6_isSame_L6_s]
      unfold FX6_isSame_L6_B
      rw [if_pos (zlt_i (by omega)), if_pos rfl])
    k.toNat zfu 0 (by omega) (by omega) (by show _ ≤ 4000; omega)
  rcases hw with ⟨d', q1, q2⟩ | ⟨d', q1, e, q2, q3, q4⟩
  · exact ⟨1, by unfold FX6_isSame; rw [q1, zgd_p (by omega)], Or.inl ⟨rfl, fun d d0 d1 => q2 d d0 d1⟩⟩
  · exact ⟨0, by unfold FX6_isSame; rw [q1, zgd_p (by omega)], Or.inr ⟨rfl, fun hp => q4 (hp e q2 q3)⟩⟩
theorem endsBelow_L (h : zTm m) {p b : Int} {K : Int → Option Int} (hp : 0 ≤ p) (hn : p < m 0 0) (hb2 : b ≤ 49) : ∀ (r f : Nat) (v : Int), v = r → v < b → v ≤ p + 1 → (∀ j, v < j → j < b → j ≤ p + 1 → ¬ zp (zx m) (p + 1 - j) j) → r + 1 ≤ f → ∃ k, FX6_endsBelow_L19 p b m K f v = K k ∧ zLb (zx m) p b k := by
  have hT := h
  obtain ⟨n0, n1, n2⟩ := h
  intro r
  induction r with
  | zero =>
    intro f v hv h1 h2 h3 hf
    obtain ⟨f, rfl⟩ : ∃ g, f = g + 1 := ⟨f - 1, by omega⟩
    refine ⟨v, ?_, by omega, h1, h2, zp_0 (by omega), h3⟩
    rw [FX6_endsBelow_L19_s]
    unfold FX6_endsBelow_L19_B
    rw [if_neg (znlt_i (by omega))]
  | succ r ih =>
    intro f v hv h1 h2 h3 hf
    obtain ⟨f, rfl⟩ : ∃ g, f = g + 1 := ⟨f - 1, by omega⟩
    obtain ⟨q, q1, q2⟩ := isMirror_spec hT (i := p + 1 - v) (k := v) (by omega) (by omega) (by omega)
    rw [FX6_endsBelow_L19_s]
    unfold FX6_endsBelow_L19_B
    rw [if_pos (zlt_i (by omega)), zcl_p q1]
    by_cases c : zp (zx m) (p + 1 - v) v
    · rw [if_neg (zyn_1 q2 c)]
      exact ⟨v, rfl, by omega, h1, h2, c, h3⟩
    · rw [if_pos (zyn_0 q2 c)]
      refine ih f (v + -1) (by omega) (by omega) (by omega) (fun j j1 j2 j3 hj => ?_) (by omega)
      by_cases e : j = v
      · subst e; exact c hj
      · exact h3 j (by omega) j2 j3 hj
theorem endsBelow_spec (h : zTm m) {p b : Int} (hp : 0 ≤ p) (hn : p < m 0 0) (hb : 1 ≤ b) (hb2 : b ≤ 49) : ∃ k, FX6_endsBelow p b m = some k ∧ zLb (zx m) p b k := by
  have n1 := h.2.1
  unfold FX6_endsBelow
  rw [zjn_p]
  by_cases c : b - 1 < p + 1
  · rw [if_pos (zlt_i (by omega))]
    exact endsBelow_L h (K := fun y => some y) hp hn hb2 (b - 1).toNat zfu (b - 1) (by omega) (by omega) (by omega) (fun j j1 j2 => by omega) (by show _ ≤ 4000; omega)
  · rw [if_neg (znlt_i (by omega))]
    exact endsBelow_L h (K := fun y => some y) hp hn hb2 (p + 1).toNat zfu (p + 1) (by omega) (by omega) (by omega) (fun j j1 j2 j3 => by omega) (by show _ ≤ 4000; omega)
theorem longest_spec (h : zTm m) {p : Int} (hp : 0 ≤ p) (hn : p < m 0 0) : ∃ k, FX6_endsBelow p 49 m = some k ∧ zL (zx m) p k := by
  have n1 := h.2.1
  obtain ⟨k, k1, k2⟩ := endsBelow_spec h hp hn (b := 49) (by omega) (by omega)
  exact ⟨k, k1, zL_b k2 (by omega) (zLb_pos k2 hp (by omega))⟩
theorem isNew_spec (h : zTm m) {p : Int} (hp : 0 ≤ p) (hn : p < m 0 0) : ∃ r k, FX6_isNew p m = some r ∧ zL (zx m) p k ∧ zyn r (zN (zx m) p k) := by
  have n1 := h.2.1
  obtain ⟨k, k1, k2⟩ := longest_spec h hp hn
  have k3 := k2.1
  have k4 := k2.2.1
  have hw := wl_all (FX6_isNew_L20 p k (p + 1 - k) m (fun y20_4 y20_5 => zgd (y20_4 = 0 ∨ y20_4 = 1) <| some y20_4)) (fun y20_4 y20_5 => zgd (y20_4 = 0 ∨ y20_4 = 1) <| some y20_4) (fun d => ¬ zs (zx m) d (p + 1 - k) k) 0 (p + 1 - k)
    (fun f d d0 d1 => by
      obtain ⟨q, q1, q2⟩ := isSame_spec h (i := d) (j := p + 1 - k) (k := k) (by omega) (by omega) (by omega) (by omega) (by omega)
      constructor
      · intro c
        rw [FX6_isNew_L20_s]
        unfold FX6_isNew_L20_B
        rw [if_pos (zlt_i (by omega)), if_neg zI_ne10, zcl_p q1, if_pos (zyn_0 q2 c)]
      · intro c
        rw [FX6_isNew_L20_s]
        unfold FX6_isNew_L20_B
        rw [if_pos (zlt_i (by omega)), if_neg zI_ne10, zcl_p q1, if_neg (zyn_1 q2 (Classical.not_not.mp c))])
    (fun f is => by
      rw [FX6_isNew_L20_s]
      unfold FX6_isNew_L20_B
      rw [if_neg (znlt_i (by omega))])
    (fun f d d0 d1 => by
      rw [FX6_isNew_L20_s]
      unfold FX6_isNew_L20_B
      rw [if_pos (zlt_i (by omega)), if_pos rfl])
    (p + 1 - k).toNat zfu 0 (by omega) (by omega) (by show _ ≤ 4000; omega)
  rcases hw with ⟨d', q1, q2⟩ | ⟨d', q1, e, q2, q3, q4⟩
  · exact ⟨1, k, by unfold FX6_isNew; rw [zcl_p k1, q1, zgd_p (by omega)], k2, Or.inl ⟨rfl, fun d d0 d1 => q2 d d0 d1⟩⟩
  · exact ⟨0, k, by unfold FX6_isNew; rw [zcl_p k1, q1, zgd_p (by omega)], k2, Or.inr ⟨rfl, fun hp => q4 (hp e q2 q3)⟩⟩
end MC
/-- what lay writes -/
def zlf (m m' : zM) : Prop := (∀ c : Nat, c ≠ 0 → c ≠ 10 → c ≠ 11 → m' c = m c) ∧ ∀ i : Int, i ≠ 12 → m' 0 i = m 0 i
theorem zlf_rf {m : zM} : zlf m m := ⟨fun _ _ _ _ => rfl, fun _ _ => rfl⟩
theorem zlf_tr {m m' m'' : zM} (h : zlf m m') (h' : zlf m' m'') : zlf m m'' := ⟨fun c a b d => (h'.1 c a b d).trans (h.1 c a b d), fun i hi => (h'.2 i hi).trans (h.2 i hi)⟩
theorem zlf_x {m m' : zM} (h : zlf m m') : zx m' = zx m := by unfold zx; rw [h.1 1 (by omega) (by omega) (by omega)]
theorem zlf_T {m m' : zM} (h : zlf m m') (hT : zTm m) : zTm m' := by
  unfold zTm
  rw [h.2 0 (by omega), h.1 1 (by omega) (by omega) (by omega)]
  exact hT
theorem lay_L {n N : Int} {E Z : Int → Int} {x : Int → Int} {K : Int → zM → Option zM} (hd : zNd x n N E Z) (hn : 0 ≤ n ∧ n ≤ 48) : ∀ (r f : Nat) (p : Int) (m : zM), zTm m → zx m = x → m 0 0 = n → 0 ≤ p → p + r = n → 0 ≤ m 0 12 → m 0 12 ≤ N → (∀ w, 0 ≤ w → w < m 0 12 → E w < p ∧ m 11 w = Z w ∧ m 10 w = E w + 1 - Z w) → (∀ w, m 0 12 ≤ w → w < N → p ≤ E w) → r < f →
    ∃ m', FX6_lay_L7 K f p m = K n m' ∧ zlf m m' ∧ m' 0 12 = N ∧ ∀ w, 0 ≤ w → w < N → m' 11 w = Z w ∧ m' 10 w = E w + 1 - Z w := by
  have hNn := zNd_N hd hn.1
  intro r
  induction r with
  | zero =>
    intro f p m hT hx h0 h1 h2 h3 h4 h5 h6 hf
    obtain ⟨f, rfl⟩ : ∃ g, f = g + 1 := ⟨f - 1, by omega⟩
    have hp : p = n := by omega
    subst hp
    have hv : m 0 12 = N := by
      by_cases c : m 0 12 < N
      · have := h6 _ (Int.le_refl _) c
        have := (zNd_Z hd h3 c).2.2.2
        omega
      · omega
    refine ⟨m, ?_, zlf_rf, hv, fun w w0 w1 => (h5 w w0 (by omega)).2⟩
    rw [FX6_lay_L7_s]
    unfold FX6_lay_L7_B
    rw [if_neg (znlt_i (by omega))]
  | succ r ih =>
    intro f p m hT hx h0 h1 h2 h3 h4 h5 h6 hf
    obtain ⟨f, rfl⟩ : ∃ g, f = g + 1 := ⟨f - 1, by omega⟩
    obtain ⟨q, k, q1, q2, q3⟩ := isNew_spec hT h1 (by omega)
    rw [hx] at q2 q3
    rw [FX6_lay_L7_s]
    unfold FX6_lay_L7_B
    rw [if_pos (zlt_i (by omega)), zcl_p q1]
    by_cases c : zN x p k
    · rw [if_neg (zyn_1 q3 c)]
      obtain ⟨w, w0, w1, w2⟩ := hd.2.2.2 p h1 (by omega) k q2 c
      have hw : w = m 0 12 := by
        by_cases e : w < m 0 12
        · have := (h5 w w0 e).1; omega
        · by_cases e2 : m 0 12 < w
          · have := hd.2.2.1 (m 0 12) w h3 e2 w1
            have := h6 (m 0 12) (Int.le_refl _) (by omega)
            omega
          · omega
      subst hw
      have hZ : Z (m 0 12) = k := by
        have := (hd.2.1 _ w0 w1).2.2.1
        rw [w2] at this
        exact zL_u this q2
      obtain ⟨k', k1, k2⟩ := longest_spec hT h1 (by omega)
      rw [hx] at k2
      have hk : k' = k := zL_u k2 q2
      subst hk
      rw [zcl_p k1, zwr_p ⟨by omega, by omega⟩]
      have a1 : zup m 11 (m 0 12) k' 0 = m 0 := zup_o _ _ _ (by omega)
      rw [a1, zrd_p ⟨by omega, by omega⟩, zup_c, zuf_e, zwr_p ⟨by omega, by omega⟩]
      obtain ⟨m1, hm1⟩ : ∃ m1, m1 = zup (zup m 11 (m 0 12) k') 10 (m 0 12) (p + 1 - k') := ⟨_, rfl⟩
      rw [← hm1, zpf_p]
      have b0 : m1 0 = m 0 := by rw [hm1, zup_o _ _ _ (by omega), zup_o _ _ _ (by omega)]
      obtain ⟨m2, hm2⟩ : ∃ m2, m2 = zup m1 0 12 (m1 0 12 + 1) := ⟨_, rfl⟩
      rw [← hm2]
      have c0 : m2 0 = zuf (m 0) 12 (m 0 12 + 1) := by rw [hm2, zup_c, b0]
      have c11 : m2 11 = zuf (m 11) (m 0 12) k' := by rw [hm2, zup_o _ _ _ (by omega), hm1, zup_o _ _ _ (by omega), zup_c]
      have c10 : m2 10 = zuf (m 10) (m 0 12) (p + 1 - k') := by rw [hm2, zup_o _ _ _ (by omega), hm1, zup_c, zup_o _ _ _ (by omega)]
      have hl : zlf m m2 := ⟨fun c a b d => by rw [hm2, zup_o _ _ _ a, hm1, zup_o _ _ _ b, zup_o _ _ _ d], fun i hi => by rw [c0, zuf_d _ _ hi]⟩
      have e12 : m2 0 12 = m 0 12 + 1 := by rw [c0, zuf_e]
      obtain ⟨m', r1, r2, r3, r4⟩ := ih f (p + 1) m2 (zlf_T hl hT) ((zlf_x hl).trans hx) (by rw [hl.2 0 (by omega)]; exact h0) (by omega) (by omega) (by omega) (by omega) (fun w w0 w1' => by
        by_cases e : w = m 0 12
        · subst e
          rw [c11, c10, zuf_e, zuf_e]
          exact ⟨by omega, hZ.symm, by omega⟩
        · obtain ⟨g1, g2, g3⟩ := h5 w w0 (by omega)
          rw [c11, c10, zuf_d _ _ e, zuf_d _ _ e]
          exact ⟨by omega, g2, g3⟩) (fun w w0 w1' => by
        have := hd.2.2.1 (m 0 12) w h3 (by omega) w1'
        omega) (by omega)
      exact ⟨m', r1, zlf_tr hl r2, r3, r4⟩
    · rw [if_pos (zyn_0 q3 c)]
      exact ih f (p + 1) m hT hx h0 (by omega) (by omega) h3 h4 (fun w w0 w1 => by
        obtain ⟨g1, g2⟩ := h5 w w0 w1
        exact ⟨by omega, g2⟩) (fun w w0 w1 => by
        have := h6 w w0 w1
        by_cases e : E w = p
        · exfalso
          obtain ⟨_, _, g3, g4⟩ := hd.2.1 w (by omega) w1
          rw [e] at g3 g4
          have := zL_u g3 q2
          rw [this] at g4
          exact c g4
        · omega) (by omega)
/-- the reference's catalogue, as it lays it -/
theorem lay_spec {m : zM} {N : Int} {E Z : Int → Int} (hT : zTm m) (hd : zNd (zx m) (m 0 0) N E Z) : ∃ m', FX6_lay m = some m' ∧ zlf m m' ∧ m' 0 12 = N ∧ ∀ w, 0 ≤ w → w < N → m' 11 w = Z w ∧ m' 10 w = E w + 1 - Z w := by
  unfold FX6_lay
  rw [zpf_p]
  obtain ⟨m1, hm1⟩ : ∃ m1, m1 = zup m 0 12 0 := ⟨_, rfl⟩
  rw [← hm1]
  have hl : zlf m m1 := ⟨fun c a b d => by rw [hm1, zup_o _ _ _ a], fun i hi => by rw [hm1, zup_c, zuf_d _ _ hi]⟩
  have e12 : m1 0 12 = 0 := by rw [hm1, zup_c, zuf_e]
  have e0 : m1 0 0 = m 0 0 := hl.2 0 (by omega)
  obtain ⟨m', r1, r2, r3, r4⟩ := lay_L (K := fun _ m7_ => some m7_) hd ⟨hT.1, hT.2.1⟩ (m 0 0).toNat zfu 0 m1 (zlf_T hl hT) (zlf_x hl) e0 (by omega) (by have := hT.1; omega) (by omega) (by have := hd.1; omega) (fun w w0 w1 => by omega) (fun w w0 w1 => (zNd_Z hd (by omega) w1).2.2.1) (by have := hT.2.1; show _ < 4000; omega)
  exact ⟨m', r1, zlf_tr hl r2, r3, r4⟩
