/-! the edges: pure -/
section C3
variable {x lat len lnk ser cor fe dep wid : Int → Int} {n N : Int}
theorem zci_wid_ex (h : zci x lat len lnk ser cor fe dep wid n N) {z i0 : Int} (hz : zsf x len fe n N z) (hp : zp x (n + 1 - (len z + 2)) (len z + 2)) (h0 : 0 ≤ i0) (h1 : i0 + (len z + 2) ≤ n) (hs : zs x i0 (n + 1 - (len z + 2)) (len z + 2)) :
    0 ≤ wid (z * 6 + (x n - 97)) ∧ wid (z * 6 + (x n - 97)) < N ∧ len (wid (z * 6 + (x n - 97))) = len z + 2 ∧ zs x (fe (wid (z * 6 + (x n - 97))) + 1 - len (wid (z * 6 + (x n - 97)))) (n + 1 - (len z + 2)) (len z + 2) := by
  have hb := zsf_b h hz
  obtain ⟨v, v0, v1, v2, v3, v4⟩ := zNd_ex h.2.2.1 i0.toNat i0 (len z + 2) (by omega) (by omega) h1 (zp_s (zs_sy hs) hp)
  obtain ⟨r1, r2, -⟩ := h.2.2.2.1
  have hv := zNd_Z h.2.2.1 v0 v1
  have hxa : x (fe v) = x n :=
    (congrArg x (by omega)).trans ((v3 (len z + 1) (by omega) (by omega)).trans ((hs (len z + 1) (by omega) (by omega)).trans (congrArg x (by omega))))
  have hc : cor v = z := by
    rcases h.2.2.2.2.2.2.1 v v0 v1 with ⟨e1, e2⟩ | ⟨e1, e2⟩ | ⟨e1, e2, e3, e4, e5⟩
    · rcases hz with q | q | ⟨q1, q2, q3, q4⟩
      · omega
      · rw [q, r1] at v2; omega
      · have := zNd_Z h.2.2.1 q1 q2; omega
    · rcases hz with q | q | ⟨q1, q2, q3, q4⟩
      · rw [q, r2] at v2; omega
      · omega
      · have := zNd_Z h.2.2.1 q1 q2; omega
    · rcases hz with q | q | ⟨q1, q2, q3, q4⟩
      · rw [q, r2] at v2; omega
      · rw [q, r1] at v2; omega
      · refine zNd_u h.2.2.1 e2 e3 q1 q2 (by omega) ?_
        have s1 : zs x (fe v + 2 - len v) (i0 + 1) (len v - 2) := zs_sub v3 (by omega) (by omega) (by omega)
        have s2 : zs x (i0 + 1) (n - len z) (len v - 2) := zs_sub hs (by omega) (by omega) (by omega)
        have s3 : zs x (n - len z) (fe z + 1 - len z) (len v - 2) := zs_to (zs_sy q4) rfl rfl (by omega)
        exact zs_to (zs_tr (zs_tr (zs_tr e5 s1) s2) s3) rfl rfl e4
  have hw := h.2.2.2.2.2.2.2.2.2.1 v v0 v1
  rw [hc, hxa] at hw
  rw [hw]
  exact ⟨v0, v1, v2, zs_to (zs_tr v3 hs) rfl rfl rfl⟩
theorem zci_wid_hit (h : zci x lat len lnk ser cor fe dep wid n N) {z : Int} (hx : 97 ≤ x n ∧ x n ≤ 102) (hz : zsf x len fe n N z) (hp : zp x (n + 1 - (len z + 2)) (len z + 2)) (hw : wid (z * 6 + (x n - 97)) ≠ -1) :
    0 ≤ wid (z * 6 + (x n - 97)) ∧ wid (z * 6 + (x n - 97)) < N ∧ len (wid (z * 6 + (x n - 97))) = len z + 2 ∧ zs x (fe (wid (z * 6 + (x n - 97))) + 1 - len (wid (z * 6 + (x n - 97)))) (n + 1 - (len z + 2)) (len z + 2) := by
  have hb := zsf_b h hz
  have hN := zci_N h
  obtain ⟨r1, r2, -⟩ := h.2.2.2.1
  rcases h.2.2.2.2.2.2.2.2.2.2 z (x n - 97) hb.1 hb.2.1 (by omega) (by omega) with e | ⟨v0, v1, v2, v3⟩
  · exact absurd e hw
  · generalize wid (z * 6 + (x n - 97)) = v at *
    have hv := zNd_Z h.2.2.1 v0 v1
    have hvp := (h.2.2.1.2.1 v v0 v1).2.2.1.2.2.1
    have hve := zp_ends hvp hv.1
    have hne := zp_ends hp (by omega)
    have hxv : x (fe v) = x n := by omega
    have key : ∀ L, len v = L + 2 → L = len z → zs x (fe v + 2 - len v) (n - len z) L → zs x (fe v + 1 - len v) (n + 1 - (len z + 2)) (len z + 2) := by
      intro L e1 e2 hL d d0 d1
      by_cases c0 : d = 0
      · subst c0
        have q1 : x (fe v + 1 - len v + 0) = x (fe v) := (congrArg x (by omega)).trans (hve.trans (congrArg x (by omega)))
        have q2 : x (n + 1 - (len z + 2) + 0) = x n := (congrArg x (by omega)).trans (hne.trans (congrArg x (by omega)))
        rw [q1, q2]; exact hxv
      · by_cases c1 : d = len z + 1
        · subst c1
          exact (congrArg x (by omega)).trans (hxv.trans (congrArg x (by omega)))
        · exact (congrArg x (by omega)).trans ((hL (d - 1) (by omega) (by omega)).trans (congrArg x (by omega)))
    rcases h.2.2.2.2.2.2.1 v v0 v1 with ⟨e1, e2⟩ | ⟨e1, e2⟩ | ⟨e1, e2, e3, e4, e5⟩
    · have : z = 49 := by omega
      subst this
      exact ⟨v0, v1, by omega, fun d d0 d1 => (congrArg x (by omega)).trans (hxv.trans (congrArg x (by omega)))⟩
    · have : z = 48 := by omega
      subst this
      exact ⟨v0, v1, by omega, key 0 (by omega) (by omega) (fun d d0 d1 => by omega)⟩
    · rcases hz with q | q | ⟨q1, q2, q3, q4⟩
      · omega
      · omega
      · rw [v2] at e4 e5
        exact ⟨v0, v1, by omega, key (len z) (by omega) rfl (zs_to (zs_tr (zs_sy e5) (zs_to q4 rfl rfl (by omega))) rfl rfl (by omega))⟩
/-- what stands beyond the nodes may change -/
theorem zci_jk (h : zci x lat len lnk ser cor fe dep wid n N) (hn : n < 48) (a b c : Int) : zci x lat (zuf len N a) lnk ser (zuf cor N b) (zuf fe N c) dep wid n N := by
  have hNn := zci_N h
  obtain ⟨h1, h2, h3, h4, h5, h6, h7, h8, h9, h10, h11⟩ := h
  obtain ⟨r1, r2, r3, r4, r5, r6, r7⟩ := h4
  have lnkN : ∀ v, 0 ≤ v → v < N → lnk v ≠ N ∧ lnk (lnk v) ≠ N := fun v v0 v1 => by
    rcases h6 v v0 v1 with ⟨_, e⟩ | ⟨_, e, e2, _⟩
    · rw [e, r3]; omega
    · refine ⟨by omega, ?_⟩
      rcases h6 _ e e2 with ⟨_, e⟩ | ⟨_, e, e2, _⟩ <;> omega
  refine ⟨h1, h2, ⟨h3.1, fun w w0 w1 => ?_, fun v w v0 vw w1 => ?_, fun p p0 p1 k hk hk2 => ?_⟩, ⟨?_, ?_, r3, r4, r5, r6, r7⟩, fun p p0 p1 => ?_, fun v v0 v1 => ?_, fun v v0 v1 => ?_, h8, fun v v0 v1 => ?_, fun v v0 v1 => ?_, fun y c y0 y1 c0 c1 => ?_⟩
  · rw [zuf_d fe _ (by omega), zuf_d len _ (by omega)]
    exact h3.2.1 w w0 w1
  · rw [zuf_d fe _ (by omega), zuf_d fe _ (by omega)]
    exact h3.2.2.1 v w v0 vw w1
  · obtain ⟨v, v0, v1, v2⟩ := h3.2.2.2 p p0 p1 k hk hk2
    exact ⟨v, v0, v1, by rw [zuf_d fe _ (by omega)]; exact v2⟩
  · rw [zuf_d len _ (by omega)]; exact r1
  · rw [zuf_d len _ (by omega)]; exact r2
  · obtain ⟨b1, b2, b3⟩ := h5 p p0 p1
    rw [zuf_d len _ (by omega), zuf_d fe _ (by omega)]
    exact ⟨b1, b2, b3⟩
  · have := (lnkN v v0 v1).1
    rw [zuf_d len _ (by omega), zuf_d fe _ (by omega : v ≠ N), zuf_d len _ this, zuf_d fe _ this]
    exact h6 v v0 v1
  · rw [zuf_d len _ (by omega), zuf_d fe _ (by omega : v ≠ N), zuf_d cor _ (by omega : v ≠ N)]
    rcases h7 v v0 v1 with q | q | ⟨q1, q2, q3, q4⟩
    · exact Or.inl q
    · exact Or.inr (Or.inl q)
    · rw [zuf_d len _ (by omega), zuf_d fe _ (by omega)]
      exact Or.inr (Or.inr ⟨q1, q2, q3, q4⟩)
  · have := lnkN v v0 v1
    rw [zuf_d len _ (by omega : v ≠ N), zuf_d len _ this.1, zuf_d len _ this.2]
    exact h9 v v0 v1
  · rw [zuf_d cor _ (by omega : v ≠ N), zuf_d fe _ (by omega : v ≠ N)]
    exact h10 v v0 v1
  · rcases h11 y c y0 y1 c0 c1 with q | ⟨q1, q2, q3, q4⟩
    · exact Or.inl q
    · rw [zuf_d cor _ (by omega), zuf_d fe _ (by omega)]
      exact Or.inr ⟨q1, q2, q3, q4⟩
end C3
theorem zup_c (m : zM) (c : Nat) (i v : Int) : zup m c i v c = zuf (m c) i v := by simp [zup, zuc]
theorem zup_o (m : zM) {c c' : Nat} (i v : Int) (h : c' ≠ c) : zup m c i v c' = m c' := by simp [zup, zuc, h]
theorem zjn_e {α γ : Type} {t : γ} {b : γ → Option α} {P : Option α → Prop} (h : ∀ j, j = t → P (b j)) : P (zjn t b) := h t rfl
/-- what a letter more does to the memory, a new node -/
def crM (m : zM) (o : Nat) (u a sh s : Int) : zM :=
  zup (zup (zup (zup (zup (zup (zup (zup m (o + 3) (m o 10) (m (o + 3) u + 2)) (o + 6) (m o 10) u) (o + 7) (m o 10) (m o 9)) (o + 4) (m o 10) sh) (o + 8) (m o 10) (m (o + 8) sh + 1)) (o + 5) (m o 10) s) (o + 9) (u * 6 + a - 97) (m o 10)) o 10 (m o 10 + 1)
theorem create_spec {m : zM} {o : Nat} {u a : Int} (h : zCI m o) (hn : m o 9 < 48) (ha : m (o + 1) (m o 9) = a) (har : 97 ≤ a ∧ a ≤ 102) (hu : zsf (m (o + 1)) (m (o + 3)) (m (o + 7)) (m o 9) (m o 10) u) (hL : zL (m (o + 1)) (m o 9) (m (o + 3) u + 2)) (hN : zN (m (o + 1)) (m o 9) (m (o + 3) u + 2)) (hw : m (o + 9) (u * 6 + (a - 97)) = -1) :
    ∃ sh s, FX1_create o u a m = some (m o 10, crM m o u a sh s) ∧ zci (m (o + 1)) (zuf (m (o + 2)) (m o 9) (m o 10)) (zuf (m (o + 3)) (m o 10) (m (o + 3) u + 2)) (zuf (m (o + 4)) (m o 10) sh) (zuf (m (o + 5)) (m o 10) s) (zuf (m (o + 6)) (m o 10) u) (zuf (m (o + 7)) (m o 10) (m o 9)) (zuf (m (o + 8)) (m o 10) (m (o + 8) sh + 1)) (zuf (m (o + 9)) (u * 6 + (a - 97)) (m o 10)) (m o 9 + 1) (m o 10 + 1) := by
  have hNn := zci_N h
  have hub := zsf_b h hu
  obtain ⟨r1, r2, r3, r4, r5, r6, r7⟩ := h.2.2.2.1
  -- the link
  obtain ⟨m4, hm4⟩ : ∃ m4, m4 = zup (zup (zup m (o + 3) (m o 10) (m (o + 3) u + 2)) (o + 6) (m o 10) u) (o + 7) (m o 10) (m o 9) := ⟨_, rfl⟩
  have e0 : m4 o = m o := by rw [hm4]; simp [zup_o]
  have e1 : m4 (o + 1) = m (o + 1) := by rw [hm4]; simp [zup_o]
  have e2 : m4 (o + 2) = m (o + 2) := by rw [hm4]; simp [zup_o]
  have e3 : m4 (o + 3) = zuf (m (o + 3)) (m o 10) (m (o + 3) u + 2) := by rw [hm4]; simp [zup_o, zup_c]
  have e4 : m4 (o + 4) = m (o + 4) := by rw [hm4]; simp [zup_o]
  have e5 : m4 (o + 5) = m (o + 5) := by rw [hm4]; simp [zup_o]
  have e6 : m4 (o + 6) = zuf (m (o + 6)) (m o 10) u := by rw [hm4]; simp [zup_o, zup_c]
  have e7 : m4 (o + 7) = zuf (m (o + 7)) (m o 10) (m o 9) := by rw [hm4]; simp [zup_o, zup_c]
  have e8 : m4 (o + 8) = m (o + 8) := by rw [hm4]; simp [zup_o]
  have e9 : m4 (o + 9) = m (o + 9) := by rw [hm4]; simp [zup_o]
  have h4 : zCI m4 o := by
    unfold zCI
    rw [e0, e1, e2, e3, e4, e5, e6, e7, e8, e9]
    exact zci_jk h hn _ _ _
  have hsh : ∃ sh, ((u = 49 ∧ sh = 48) ∨ (u ≠ 49 ∧ ∃ z, FX1_longestBehind o (m (o + 4) u) a m4 = some z ∧ 0 ≤ z ∧ z < 50 ∧ m (o + 9) (z * 6 + a - 97) = sh ∧ 0 ≤ sh ∧ sh < m o 10 ∧ zLb (m (o + 1)) (m o 9) (m (o + 3) u + 2) (m (o + 3) sh) ∧ zs (m (o + 1)) (m (o + 7) sh + 1 - m (o + 3) sh) (m o 9 + 1 - m (o + 3) sh) (m (o + 3) sh))) := by
    by_cases c : u = 49
    · exact ⟨48, Or.inl ⟨c, rfl⟩⟩
    · obtain ⟨l1, l2, l3⟩ := zsf_link h hu c
      have hlb := zsf_b h l1
      have hlN : m (o + 4) u ≠ m o 10 := by
        rcases l1 with q | q | ⟨q1, q2, _⟩ <;> omega
      have l1' : zsf (m4 (o + 1)) (m4 (o + 3)) (m4 (o + 7)) (m4 o 9) (m4 o 10) (m (o + 4) u) := by
        rw [e0, e1, e3, e7]
        rcases l1 with q | q | ⟨q1, q2, q3, q4⟩
        · exact Or.inl q
        · exact Or.inr (Or.inl q)
        · refine Or.inr (Or.inr ⟨q1, q2, ?_⟩)
          rw [zuf_d _ _ hlN, zuf_d _ _ hlN]
          exact ⟨q3, q4⟩
      obtain ⟨z, z1, z2, z3, z4, z5, z6⟩ := lb_spec (m := m4) (o := o) (a := a) (u := m (o + 4) u) h4 (by rw [e0]; exact hn) (by rw [e0, e1]; exact ha) har (m (o + 3) u + 2) l1' (by
        rw [e0, e1, e3, zuf_d _ _ hlN]
        intro j j1 j2 j3 hp
        exact l3 (j - 2) (by omega) (by omega) (zp_to (zp_in hp) (by omega) rfl))
      rw [e0, e1, e3, e7] at z2
      have hzN : z ≠ m o 10 := by
        rcases z2 with q | q | ⟨q1, q2, _⟩ <;> omega
      have z2' : zsf (m (o + 1)) (m (o + 3)) (m (o + 7)) (m o 9) (m o 10) z := by
        rcases z2 with q | q | ⟨q1, q2, q3, q4⟩
        · exact Or.inl q
        · exact Or.inr (Or.inl q)
        · refine Or.inr (Or.inr ⟨q1, q2, ?_⟩)
          rw [zuf_d _ _ hzN] at q3 q4
          rw [zuf_d _ _ hzN] at q4
          exact ⟨q3, q4⟩
      rw [e3, zuf_d _ _ hzN, zuf_d _ _ hlN] at z3
      rw [e0, e1, e3, zuf_d _ _ hzN] at z4 z6
      rw [e0, e3, zuf_d _ _ hzN] at z5
      have hzb := zsf_b h z2'
      have hw2 := zci_wid_ex h z2' z4 (i0 := m o 9 + 1 - (m (o + 3) u + 2)) (by have := hL.2.1; omega) (by omega) (zs_to (zp_pre hL.2.2.1 (zp_to z4 (by omega) rfl) (by omega)) rfl (by omega) rfl)
      rw [ha] at hw2
      obtain ⟨w1, w2, w3, w4⟩ := hw2
      have ew : z * 6 + a - 97 = z * 6 + (a - 97) := by omega
      refine ⟨_, Or.inr ⟨c, z, z1, hzb.1, hzb.2.1, by rw [ew], w1, w2, ?_, zs_to w4 rfl (by omega) w3⟩⟩
      rw [w3]
      exact ⟨by omega, by omega, z5, z4, z6⟩
  obtain ⟨sh, hsh⟩ := hsh
  have shb : 0 ≤ sh ∧ sh < 50 ∧ sh ≠ m o 10 := by
    rcases hsh with ⟨a, b⟩ | ⟨a, z, b⟩
    · omega
    · omega
  have lshb : 0 ≤ m (o + 4) sh ∧ m (o + 4) sh < 50 ∧ m (o + 4) sh ≠ m o 10 := by
    rcases hsh with ⟨a, b⟩ | ⟨a, z, b, b1, b2, b3, b4, b5, _⟩
    · rw [b, r3]; omega
    · rcases h.2.2.2.2.2.1 sh b4 b5 with ⟨_, q⟩ | ⟨_, q, q2, _⟩ <;> omega
  have hlsh : -1 ≤ m (o + 3) sh ∧ m (o + 3) sh ≤ 48 ∧ -1 ≤ m (o + 3) (m (o + 4) sh) ∧ m (o + 3) (m (o + 4) sh) ≤ 48 := by
    rcases hsh with ⟨a, b⟩ | ⟨a, z, b, b1, b2, b3, b4, b5, _⟩
    · rw [b, r3, r1, r2]; omega
    · have := zNd_Z h.2.2.1 b4 b5
      have hl : -1 ≤ m (o + 3) (m (o + 4) sh) ∧ m (o + 3) (m (o + 4) sh) ≤ 48 := by
        rcases h.2.2.2.2.2.1 sh b4 b5 with ⟨_, q⟩ | ⟨_, q, q2, _⟩
        · rw [q, r1]; omega
        · have := zNd_Z h.2.2.1 q q2; omega
      omega
  refine ⟨sh, if m (o + 3) u + 2 - m (o + 3) sh = m (o + 3) sh - m (o + 3) (m (o + 4) sh) then m (o + 5) sh else sh, ?_, ?_⟩
  · unfold FX1_create
    rw [zrd_p ⟨hub.1, hub.2.1⟩, zwr_p ⟨by omega, by omega⟩, zwr_p ⟨by omega, by omega⟩, zwr_p ⟨by omega, by omega⟩]
    have em : zup (zup m (o + 3) (m o 10) (m (o + 3) u + 2)) (o + 6) (m o 10) u o 9 = m o 9 := by simp [zup_o]
    rw [em, ← hm4]
    refine zjn_e (P := fun r => r = some (m o 10, crM m o u a sh (if m (o + 3) u + 2 - m (o + 3) sh = m (o + 3) sh - m (o + 3) (m (o + 4) sh) then m (o + 5) sh else sh))) (fun J hJ => ?_)
    have hJs : J sh = some (m o 10, crM m o u a sh (if m (o + 3) u + 2 - m (o + 3) sh = m (o + 3) sh - m (o + 3) (m (o + 4) sh) then m (o + 5) sh else sh)) := by
      rw [hJ]
      show zwr m4 (o + 4) (m o 10) sh 50 _ = _
      rw [zwr_p ⟨by omega, by omega⟩, zrd_p ⟨shb.1, shb.2.1⟩, zwr_p ⟨by omega, by omega⟩]
      obtain ⟨m7, hm7⟩ : ∃ m7, m7 = zup (zup m4 (o + 4) (m o 10) sh) (o + 8) (m o 10) (zup m4 (o + 4) (m o 10) sh (o + 8) sh + 1) := ⟨_, rfl⟩
      rw [← hm7]
      have f3 : m7 (o + 3) = zuf (m (o + 3)) (m o 10) (m (o + 3) u + 2) := by rw [hm7]; simp [zup_o, e3]
      have f4 : m7 (o + 4) = zuf (m (o + 4)) (m o 10) sh := by rw [hm7]; simp [zup_o, zup_c, e4]
      have f5 : m7 (o + 5) = m (o + 5) := by rw [hm7]; simp [zup_o, e5]
      have f0 : m7 o = m o := by rw [hm7]; simp [zup_o, e0]
      have hl1 : FX1_less o (m o 10) m7 = some (m (o + 3) u + 2 - m (o + 3) sh) := by
        unfold FX1_less
        rw [zrd_p ⟨by omega, by omega⟩, zrd_p ⟨by omega, by omega⟩, f4, zuf_e, zrd_p ⟨shb.1, shb.2.1⟩, f3, zuf_e, zuf_d _ _ shb.2.2]
      have hl2 : FX1_less o sh m7 = some (m (o + 3) sh - m (o + 3) (m (o + 4) sh)) := by
        unfold FX1_less
        rw [zrd_p ⟨shb.1, shb.2.1⟩, zrd_p ⟨shb.1, shb.2.1⟩, f4, zuf_d _ _ shb.2.2, zrd_p ⟨lshb.1, lshb.2.1⟩, f3, zuf_d _ _ shb.2.2, zuf_d _ _ lshb.2.2]
      rw [zcl_p hl1, zcl_p hl2]
      refine zjn_e (P := fun r => r = some (m o 10, crM m o u a sh (if m (o + 3) u + 2 - m (o + 3) sh = m (o + 3) sh - m (o + 3) (m (o + 4) sh) then m (o + 5) sh else sh))) (fun J2 hJ2 => ?_)
      have hJ2s : ∀ s, J2 s = some (m o 10, crM m o u a sh s) := by
        intro s
        rw [hJ2]
        show zwr m7 (o + 5) (m o 10) s 50 _ = _
        rw [zwr_p ⟨by omega, by omega⟩, zcl_p (show FX1_edge u a = some (u * 6 + a - 97) from rfl), zwr_p ⟨by omega, by omega⟩, zpf_p]
        have g0 : zup (zup m7 (o + 5) (m o 10) s) (o + 9) (u * 6 + a - 97) (m o 10) o 10 = m o 10 := by simp [zup_o, f0]
        rw [g0]
        have g8 : zup m4 (o + 4) (m o 10) sh (o + 8) sh = m (o + 8) sh := by simp [zup_o, e8]
        rw [hm7, g8, hm4]
        rfl
      by_cases c : m (o + 3) u + 2 - m (o + 3) sh = m (o + 3) sh - m (o + 3) (m (o + 4) sh)
      · rw [if_pos (by rw [c]), if_pos c, zrd_p ⟨shb.1, shb.2.1⟩, hJ2s, f5]
      · rw [if_neg (zne_i ⟨by omega, by omega, by omega, by omega, c⟩), if_neg c, hJ2s]
    rcases hsh with ⟨c1, c2⟩ | ⟨c1, z, z1, z2, z3, z4, z5⟩
    · rw [if_pos (by rw [c1]), ← c2, hJs]
    · rw [if_neg (zne_i ⟨by omega, by omega, by omega, by omega, c1⟩), zrd_p ⟨hub.1, hub.2.1⟩, e4, zcl_p z1, zcl_p (show FX1_edge z a = some (z * 6 + a - 97) from rfl), zrd_p ⟨by omega, by omega⟩, e9, z4, hJs]
  · have hh := zci_new (u := u) (sh := sh) (s := if m (o + 3) u + 2 - m (o + 3) sh = m (o + 3) sh - m (o + 3) (m (o + 4) sh) then m (o + 5) sh else sh) h hn (by rw [ha]; exact har) hu hL hN (by rw [ha]; exact hw) (by
      rcases hsh with q | ⟨c1, z, z1, z2, z3, z4, z5⟩
      · exact Or.inl q
      · exact Or.inr ⟨c1, z5⟩) rfl
    rw [ha] at hh
    exact hh
