section MT
variable {mC mM : zM}
theorem unlike5 (hn : 0 ≤ mC 1 9 ∧ mC 1 9 ≤ 48) (hl : ∀ q, 0 ≤ q → q < mC 1 9 → 97 ≤ mC 2 q ∧ mC 2 q ≤ 102) : FX1_unlikePairs 1 mC = some (zct (fun i => mC 2 i ≠ mC 2 (mC 1 9 - 1 - i)) (mC 1 9 / 2).toNat) := by
  unfold FX1_unlikePairs
  refine zlo2 (FX1_unlikePairs_L4 1 mC (fun y _ => some y)) (fun r c v => v + r = mC 1 9 / 2 ∧ 0 ≤ v ∧ c = zct (fun i => mC 2 i ≠ mC 2 (mC 1 9 - 1 - i)) v.toNat) (fun z => z = some (zct (fun i => mC 2 i ≠ mC 2 (mC 1 9 - 1 - i)) (mC 1 9 / 2).toNat)) ?_ ?_ (mC 1 9 / 2).toNat zfu 0 0 ⟨by omega, by omega, rfl⟩ (by show _ < 4000; omega)
  · intro f r c v ⟨i1, i2, i3⟩
    have l1 := hl v i2 (by omega)
    have l2 := hl (mC 1 9 - 1 - v) (by omega) (by omega)
    have e : zct (fun i => mC 2 i ≠ mC 2 (mC 1 9 - 1 - i)) (v + 1).toNat = c + zin (mC 2 v ≠ mC 2 (mC 1 9 - 1 - v)) := by
      rw [show (v + 1).toNat = v.toNat + 1 by omega, zct_s, i3, show ((v.toNat : Nat) : Int) = v by omega]
    rw [FX1_unlikePairs_L4_s]
    unfold FX1_unlikePairs_L4_B
    rw [zgd_p ⟨by omega, by omega, by omega, by omega⟩, if_pos (zlt_i (by omega)), zrd_p ⟨by omega, by omega⟩, zrd_p ⟨by omega, by omega⟩]
    by_cases c2 : mC 2 v = mC 2 (mC 1 9 - 1 - v)
    · rw [if_pos (show zI (mC (1 + 1) v) = zI (mC (1 + 1) (mC 1 9 - 1 - v)) from congrArg zI c2)]
      exact Or.inr ⟨c, v + 1, rfl, by omega, by omega, by rw [e, zin_0 (fun q => q c2)]; omega⟩
    · rw [if_neg (show ¬ zI (mC (1 + 1) v) = zI (mC (1 + 1) (mC 1 9 - 1 - v)) from zne_i ⟨by show _ ≤ mC 2 v; omega, by show mC 2 v < _; omega, by show _ ≤ mC 2 _; omega, by show mC 2 _ < _; omega, c2⟩)]
      exact Or.inr ⟨c + 1, v + 1, rfl, by omega, by omega, by rw [e, zin_1 c2]⟩
  · intro f c v ⟨i1, i2, i3⟩
    rw [FX1_unlikePairs_L4_s]
    unfold FX1_unlikePairs_L4_B
    rw [zgd_p ⟨by omega, by omega, by omega, by omega⟩, if_neg (znlt_i (by omega)), i3, show v = mC 1 9 / 2 by omega]
theorem mend16 (hT : zTm mM) {a1 : Int} {K : Int → Int → Option (Int × zM)} : FX6_mend_L16 a1 mM K zfu 0 0 = K (zct (fun i => zx mM i ≠ zx mM (mM 0 0 - 1 - i)) (mM 0 0 / 2).toNat) (mM 0 0 / 2) := by
  obtain ⟨n0, n1, n2⟩ := hT
  refine zlo2 (FX6_mend_L16 a1 mM K) (fun r c v => v + r = mM 0 0 / 2 ∧ 0 ≤ v ∧ c = zct (fun i => zx mM i ≠ zx mM (mM 0 0 - 1 - i)) v.toNat) (fun z => z = K (zct (fun i => zx mM i ≠ zx mM (mM 0 0 - 1 - i)) (mM 0 0 / 2).toNat) (mM 0 0 / 2)) ?_ ?_ (mM 0 0 / 2).toNat zfu 0 0 ⟨by omega, by omega, rfl⟩ (by show _ < 4000; omega)
  · intro f r c v ⟨i1, i2, i3⟩
    have l1 := n2 v i2 (by omega)
    have l2 := n2 (mM 0 0 - 1 - v) (by omega) (by omega)
    have e : zct (fun i => zx mM i ≠ zx mM (mM 0 0 - 1 - i)) (v + 1).toNat = c + zin (zx mM v ≠ zx mM (mM 0 0 - 1 - v)) := by
      rw [show (v + 1).toNat = v.toNat + 1 by omega, zct_s, i3, show ((v.toNat : Nat) : Int) = v by omega]
    rw [FX6_mend_L16_s]
    unfold FX6_mend_L16_B
    rw [zgd_p ⟨by omega, by omega, by omega, by omega⟩, if_pos (zlt_i (by omega)), zrd_p ⟨by omega, by omega⟩, zrd_p ⟨by omega, by omega⟩]
    by_cases c2 : mM 1 v = mM 1 (mM 0 0 - 1 - v)
    · rw [if_pos (by rw [c2])]
      exact Or.inr ⟨c + 0, v + 1, rfl, by omega, by omega, by rw [e, zin_0 (fun q => q (by unfold zx; rw [c2]))]⟩
    · rw [if_neg (zne_i ⟨by omega, by omega, by omega, by omega, c2⟩)]
      exact Or.inr ⟨c + 1, v + 1, rfl, by omega, by omega, by rw [e, zin_1 (by unfold zx; omega)]⟩
  · intro f c v ⟨i1, i2, i3⟩
    rw [FX6_mend_L16_s]
    unfold FX6_mend_L16_B
    rw [zgd_p ⟨by omega, by omega, by omega, by omega⟩, if_neg (znlt_i (by omega)), i3, show v = mM 0 0 / 2 by omega]
theorem S_mend (h : zRel mC mM) : zS_mend zRel mC mM := by
  intro a1 h1
  have hb : 0 ≤ mC 1 9 ∧ mC 1 9 ≤ 48 := h.t.ct.1
  have hl : ∀ q, 0 ≤ q → q < mC 1 9 → 97 ≤ mC 2 q ∧ mC 2 q ≤ 102 := h.t.ct.2.1
  have b0 := h.t.n
  obtain ⟨r2, p3, p4⟩ := w6 (a := a1) (lo := 0) (hi := 1) ⟨h1, by omega, by omega⟩
  by_cases c : 0 ≤ a1 ∧ a1 ≤ 1
  · have sM : FX6_mend a1 mM = (if zI a1 = zI 0 then (some (zct (fun i => zx mM i ≠ zx mM (mM 0 0 - 1 - i)) (mM 0 0 / 2).toNat, mM)) else (zcl2 (FX6_fill mM) fun r8 m8 => some (r8, m8))) := by
      unfold FX6_mend; rw [zgd_p h1, zcl_p p3, if_neg (zyn_1 p4 c), mend16 h.t.T]
    by_cases c2 : a1 = 0
    · have z2 : zI a1 = zI 0 := by rw [c2]
      refine ⟨zct (fun i => zx mM i ≠ zx mM (mM 0 0 - 1 - i)) (mM 0 0 / 2).toNat, mC, mM, ?_, by rw [sM, if_pos z2], h⟩
      unfold FX5_mend
      rw [if_pos z2, zcl_p (unlike5 hb hl), b0]
      refine congrArg some (congrArg (fun q => (q, mC)) (zct_cg _ (fun i i0 i1 => ?_)))
      rw [h.t.x i i0 (by omega), h.t.x (mC 1 9 - 1 - i) (by omega) (by omega)]
      exact Iff.rfl
    · have z2 : ¬ zI a1 = zI 0 := zne_i (by omega)
      have z3 : zI a1 = zI 1 := by rw [show a1 = 1 by omega]
      obtain ⟨m1, f1, f2⟩ := fills5 hb hl
      obtain ⟨m2, g1, g2⟩ := fill6 h.t.T
      refine ⟨zfl (mC 2) (mC 1 9).toNat 0, m1, m2, ?_, ?_, zRel_E h ⟨zCI_cg h.cr (fun k hk => f2 _ (by omega)), fun c hc => f2 c (by omega)⟩ ⟨fun c c1 c2 => g2 c (by omega) (by omega), by rw [g2 0 (by omega) (by omega)], by rw [g2 0 (by omega) (by omega)], by rw [g2 0 (by omega) (by omega)], fun i _ _ => by rw [g2 1 (by omega) (by omega)]⟩⟩
      · unfold FX5_mend; rw [if_neg z2, if_pos z3, zcl2_p f1]
      · rw [sM, if_neg z2, zcl2_p g1, (zfl_cg (y := zx mM) (fun q q0 q1 => h.t.x q q0 q1) (mC 1 9).toNat).1 0 (by omega) (by omega), b0]
  · have z0 : ¬ zI a1 = zI 0 := zne_i (by omega)
    have z1 : ¬ zI a1 = zI 1 := zne_i (by omega)
    refine ⟨-1, mC, mM, ?_, ?_, h⟩
    · unfold FX5_mend; rw [if_neg z0, if_neg z1]
    · unfold FX6_mend; rw [zgd_p h1, zcl_p p3, if_pos (zyn_0 p4 c)]
def zar (n p : Int) : Int := if p < n then p else p - n
theorem zar_b {n p : Int} (h0 : 0 ≤ p) (h1 : p < 2 * n) : 0 ≤ zar n p ∧ zar n p < n := by
  unfold zar
  by_cases c : p < n
  · rw [if_pos c]; omega
  · rw [if_neg c]; omega
theorem zar_m {n p : Int} (h0 : 0 ≤ p) (h1 : p < 2 * n) : p % n = zar n p := by
  unfold zar
  by_cases c : p < n
  · rw [if_pos c]; exact Int.emod_eq_of_lt h0 c
  · rw [if_neg c]
    have q : (p - n) % n = p - n := Int.emod_eq_of_lt (by omega) (by omega)
    rw [Int.sub_emod_right] at q
    exact q
/-- turned by k letters it is the same from behind -/
def zTu (x : Int → Int) (n k : Int) : Prop := ∀ i, 0 ≤ i → i < n / 2 → x (zar n (k + i)) = x (zar n (k + n - 1 - i))
theorem around5 {p : Int} (hn : 0 ≤ mC 1 9 ∧ mC 1 9 ≤ 48) (hp : 0 ≤ p ∧ p ≤ 200) : FX1_around 1 p mC = some (zar (mC 1 9) p) := by
  unfold FX1_around zar
  by_cases c : p < mC 1 9
  · rw [if_pos (zlt_i (by omega)), if_pos c]
  · rw [if_neg (znlt_i (by omega)), if_neg c]
theorem turn5 (hn : 0 ≤ mC 1 9 ∧ mC 1 9 ≤ 48) (hl : ∀ q, 0 ≤ q → q < mC 1 9 → 97 ≤ mC 2 q ∧ mC 2 q ≤ 102) {k : Int} (k0 : 0 ≤ k) (k1 : k < mC 1 9) : ∃ r, FX1_isMirrorTurned 1 k mC = some r ∧ zyn r (zTu (mC 2) (mC 1 9) k) := by
  unfold FX1_isMirrorTurned
  refine zlo1 (FX1_isMirrorTurned_L2 1 k mC (fun _ => some 1)) (fun r v => v + r = mC 1 9 / 2 ∧ 0 ≤ v ∧ ∀ i, 0 ≤ i → i < v → mC 2 (zar (mC 1 9) (k + i)) = mC 2 (zar (mC 1 9) (k + mC 1 9 - 1 - i))) (fun z => ∃ r, z = some r ∧ zyn r (zTu (mC 2) (mC 1 9) k)) ?_ ?_ (mC 1 9 / 2).toNat zfu 0 ⟨by omega, by omega, fun i i0 i1 => by omega⟩ (by show _ < 4000; omega)
  · intro f r v ⟨i1, i2, i3⟩
    have a1 := zar_b (n := mC 1 9) (p := k + v) (by omega) (by omega)
    have a2 := zar_b (n := mC 1 9) (p := k + mC 1 9 - 1 - v) (by omega) (by omega)
    have l1 := hl _ a1.1 a1.2
    have l2 := hl _ a2.1 a2.2
    rw [FX1_isMirrorTurned_L2_s]
    unfold FX1_isMirrorTurned_L2_B
    rw [zgd_p ⟨by omega, by omega, by omega, by omega⟩, if_pos (zlt_i (by omega)), zcl_p (around5 hn (by omega)), zrd_p ⟨by omega, by omega⟩, zcl_p (around5 hn (by omega)), zrd_p ⟨by omega, by omega⟩]
    by_cases c : mC 2 (zar (mC 1 9) (k + v)) = mC 2 (zar (mC 1 9) (k + mC 1 9 - 1 - v))
    · rw [if_pos (show zI (mC (1 + 1) _) = zI (mC (1 + 1) _) from congrArg zI c)]
      refine Or.inr ⟨v + 1, rfl, by omega, by omega, fun i i0 i1 => ?_⟩
      by_cases e : i = v
      · subst e; exact c
      · exact i3 i i0 (by omega)
    · rw [if_neg (show ¬ zI (mC (1 + 1) _) = zI (mC (1 + 1) _) from zne_i ⟨by show _ ≤ mC 2 _; omega, by show mC 2 _ < _; omega, by show _ ≤ mC 2 _; omega, by show mC 2 _ < _; omega, c⟩)]
      exact Or.inl ⟨0, rfl, Or.inr ⟨rfl, fun q => c (q v i2 (by omega))⟩⟩
  · intro f v ⟨i1, i2, i3⟩
    rw [FX1_isMirrorTurned_L2_s]
    unfold FX1_isMirrorTurned_L2_B
    rw [zgd_p ⟨by omega, by omega, by omega, by omega⟩, if_neg (znlt_i (by omega))]
    exact ⟨1, rfl, Or.inl ⟨rfl, fun i i0 i1 => i3 i i0 (by omega)⟩⟩
theorem turn6 (hT : zTm mM) {k : Int} (k0 : 0 ≤ k) (k1 : k < mM 0 0) : ∃ r, FX6_isTurned k mM = some r ∧ zyn r (zTu (zx mM) (mM 0 0) k) := by
  obtain ⟨n0, n1, n2⟩ := hT
  have hw := wl_all (FX6_isTurned_L4 k mM (fun y4_2 y4_3 => zgd (y4_2 = 0 ∨ y4_2 = 1) <| some y4_2)) (fun y4_2 y4_3 => zgd (y4_2 = 0 ∨ y4_2 = 1) <| some y4_2) (fun d => zx mM (zar (mM 0 0) (k + d)) = zx mM (zar (mM 0 0) (k + mM 0 0 - 1 - d))) 0 (mM 0 0 / 2)
    (fun f d d0 d1 => by
      have b1 := zar_b (n := mM 0 0) (p := k + d) (by omega) (by omega)
      have b2 := zar_b (n := mM 0 0) (p := k + mM 0 0 - 1 - d) (by omega) (by omega)
      have a1 := n2 _ b1.1 b1.2
      have a2 := n2 _ b2.1 b2.2
      have e1 := zar_m (n := mM 0 0) (p := k + d) (by omega) (by omega)
      have e2 := zar_m (n := mM 0 0) (p := k + mM 0 0 - 1 - d) (by omega) (by omega)
      constructor
      · intro c
        rw [FX6_isTurned_L4_s]
        unfold FX6_isTurned_L4_B
        rw [zgd_p ⟨by omega, by omega, by omega, by omega⟩, if_pos (zlt_i (by omega)), if_neg zI_ne10, zgd_p ⟨by omega, by omega, by omega, by omega⟩, e1, zrd_p ⟨by omega, by omega⟩, zgd_p ⟨by omega, by omega, by omega, by omega⟩, e2, zrd_p ⟨by omega, by omega⟩, if_pos (by unfold zx at c; exact congrArg zI (by omega))]
      · intro c
        rw [FX6_isTurned_L4_s]
        unfold FX6_isTurned_L4_B
        rw [zgd_p ⟨by omega, by omega, by omega, by omega⟩, if_pos (zlt_i (by omega)), if_neg zI_ne10, zgd_p ⟨by omega, by omega, by omega, by omega⟩, e1, zrd_p ⟨by omega, by omega⟩, zgd_p ⟨by omega, by omega, by omega, by omega⟩, e2, zrd_p ⟨by omega, by omega⟩, if_neg (zne_i ⟨by omega, by omega, by omega, by omega, fun q => c (by unfold zx; omega)⟩)])
    (fun f is => by
      rw [FX6_isTurned_L4_s]
      unfold FX6_isTurned_L4_B
      rw [zgd_p ⟨by omega, by omega, by omega, by omega⟩, if_neg (znlt_i (by omega))])
    (fun f d d0 d1 => by
      rw [FX6_isTurned_L4_s]
      unfold FX6_isTurned_L4_B
      rw [zgd_p ⟨by omega, by omega, by omega, by omega⟩, if_pos (zlt_i (by omega)), if_pos rfl])
    (mM 0 0 / 2).toNat zfu 0 (by omega) (by omega) (by show _ ≤ 4000; omega)
  rcases hw with ⟨d', q1, q2⟩ | ⟨d', q1, e, q2, q3, q4⟩
  · exact ⟨1, by unfold FX6_isTurned; rw [q1, zgd_p (by omega)], Or.inl ⟨rfl, fun d d0 d1 => q2 d d0 d1⟩⟩
  · exact ⟨0, by unfold FX6_isTurned; rw [q1, zgd_p (by omega)], Or.inr ⟨rfl, fun hp => q4 (hp e q2 q3)⟩⟩
theorem turned_LL (h : zRel mC mM) {a1 : Int} {K : Int → Int → Int → Option Int} : ∀ (r f : Nat) (c l v : Int), v = r - 1 → v < mC 1 9 → r < f → FX5_turned_L27 a1 mC K f c l v = FX6_turned_L25 a1 mM K f c l v := by
  have hb : 0 ≤ mC 1 9 ∧ mC 1 9 ≤ 48 := h.t.ct.1
  have hl : ∀ q, 0 ≤ q → q < mC 1 9 → 97 ≤ mC 2 q ∧ mC 2 q ≤ 102 := h.t.ct.2.1
  have b0 := h.t.n
  intro r
  induction r with
  | zero =>
    intro f c l v hv hv2 hf
    obtain ⟨f, rfl⟩ : ∃ g, f = g + 1 := ⟨f - 1, by omega⟩
    rw [FX5_turned_L27_s, FX6_turned_L25_s]
    unfold FX5_turned_L27_B FX6_turned_L25_B
    rw [if_pos (zlt_i (by omega)), if_pos (zlt_i (by omega))]
  | succ r ih =>
    intro f c l v hv hv2 hf
    obtain ⟨f, rfl⟩ : ∃ g, f = g + 1 := ⟨f - 1, by omega⟩
    obtain ⟨q, q1, q2⟩ := turn5 hb hl (k := v) (by omega) hv2
    obtain ⟨w, w1, w2⟩ := turn6 h.t.T (k := v) (by omega) (by omega)
    rw [b0] at w2
    have e : zTu (mC 2) (mC 1 9) v ↔ zTu (zx mM) (mC 1 9) v := by
      have e1 : ∀ i, 0 ≤ i → i < mC 1 9 / 2 → mC 2 (zar (mC 1 9) (v + i)) = zx mM (zar (mC 1 9) (v + i)) ∧ mC 2 (zar (mC 1 9) (v + mC 1 9 - 1 - i)) = zx mM (zar (mC 1 9) (v + mC 1 9 - 1 - i)) := fun i i0 i1 => by
        have b1 := zar_b (n := mC 1 9) (p := v + i) (by omega) (by omega)
        have b2 := zar_b (n := mC 1 9) (p := v + mC 1 9 - 1 - i) (by omega) (by omega)
        exact ⟨h.t.x _ b1.1 b1.2, h.t.x _ b2.1 b2.2⟩
      exact ⟨fun hh i i0 i1 => (e1 i i0 i1).1.symm.trans ((hh i i0 i1).trans (e1 i i0 i1).2), fun hh i i0 i1 => (e1 i i0 i1).1.trans ((hh i i0 i1).trans (e1 i i0 i1).2.symm)⟩
    rw [FX5_turned_L27_s, FX6_turned_L25_s]
    unfold FX5_turned_L27_B FX6_turned_L25_B
    have n0 : ¬ zI v < zI 0 := znlt_i (by omega)
    rw [if_neg n0, if_neg n0, zcl_p q1, zcl_p w1, zjn_p]
    dsimp only
    rw [zcl_p w1, zcl_p w1]
    by_cases c2 : zTu (zx mM) (mC 1 9) v
    · have z := zyn_1 w2 c2
      rw [if_neg (zyn_1 q2 (e.mpr c2)), if_neg z, if_neg z]
      exact ih f _ _ _ (by omega) (by omega) (by omega)
    · have z := zyn_0 w2 c2
      rw [if_pos (zyn_0 q2 (fun hh => c2 (e.mp hh))), if_pos z, if_pos z, show c + 0 = c by omega]
      exact ih f _ _ _ (by omega) (by omega) (by omega)
theorem S_turned (h : zRel mC mM) : zS_turned zRel mC mM := by
  intro a1 h1
  have hb : 0 ≤ mC 1 9 ∧ mC 1 9 ≤ 48 := h.t.ct.1
  have b0 := h.t.n
  obtain ⟨r1, p1, p2⟩ := w5 (a := a1) (lo := 0) (hi := 1) ⟨h1, by omega, by omega⟩
  obtain ⟨r2, p3, p4⟩ := w6 (a := a1) (lo := 0) (hi := 1) ⟨h1, by omega, by omega⟩
  by_cases c : 0 ≤ a1 ∧ a1 ≤ 1
  · have e := turned_LL h (a1 := a1) (K := fun y27_2 y27_3 y27_4 => if zI a1 = zI 0 then (some y27_2) else (some y27_3)) (mC 1 9).toNat zfu 0 (-4) (mC 1 9 - 1) (by omega) (by omega) (by show _ < 4000; omega)
    have hs : ∃ z, FX5_turned_L27 a1 mC (fun y27_2 y27_3 y27_4 => if zI a1 = zI 0 then (some y27_2) else (some y27_3)) zfu 0 (-4) (mC 1 9 - 1) = some z := by
      refine zlo3 (FX5_turned_L27 a1 mC (fun y27_2 y27_3 y27_4 => if zI a1 = zI 0 then (some y27_2) else (some y27_3))) (fun r c l v => v = r - 1 ∧ v < mC 1 9) (fun x => ∃ z, x = some z) ?_ ?_ (mC 1 9).toNat zfu 0 (-4) (mC 1 9 - 1) ⟨by omega, by omega⟩ (by show _ < 4000; omega)
      · intro f r c l v ⟨i1, i2⟩
        obtain ⟨q, q1, q2⟩ := turn5 hb (fun q q0 q1 => h.t.ct.2.1 q q0 q1) (k := v) (by omega) i2
        rw [FX5_turned_L27_s]
        unfold FX5_turned_L27_B
        rw [if_neg (znlt_i (by omega)), zcl_p q1]
        by_cases z : zI q = zI 0
        · rw [if_pos z]; exact Or.inr ⟨_, _, _, rfl, by omega, by omega⟩
        · rw [if_neg z]; exact Or.inr ⟨_, _, _, rfl, by omega, by omega⟩
      · intro f c l v ⟨i1, i2⟩
        rw [FX5_turned_L27_s]
        unfold FX5_turned_L27_B
        rw [if_pos (zlt_i (by omega))]
        dsimp only
        by_cases z : zI a1 = zI 0
        · rw [if_pos z]; exact ⟨_, rfl⟩
        · rw [if_neg z]; exact ⟨_, rfl⟩
    obtain ⟨z, hz⟩ := hs
    refine ⟨z, ?_, ?_, h⟩
    · unfold FX5_turned; rw [zcl_p p1, if_neg (zyn_1 p2 c)]; exact hz
    · unfold FX6_turned; rw [zgd_p h1, zcl_p p3, if_neg (zyn_1 p4 c), b0]; exact e.symm.trans hz
  · refine ⟨-1, ?_, ?_, h⟩
    · unfold FX5_turned; rw [zcl_p p1, if_pos (zyn_0 p2 c)]
    · unfold FX6_turned; rw [zgd_p h1, zcl_p p3, if_pos (zyn_0 p4 c)]
end MT
