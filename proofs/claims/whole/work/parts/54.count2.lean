/-! spell, next, count -/
section SC
variable {mC mM : zM}
theorem narrow_l {o : Nat} {m : zM} {v : Int} (hl : 0 ≤ m o 1 ∧ m o 1 ≤ 3) (hv : 97 ≤ v ∧ v ≤ 102) : FX4_narrowed o v m = some v := by
  obtain ⟨r, r1, r2, r3⟩ := narrow_both (o := o) (m := m) (l := m o 1) (v := v) rfl hl ⟨by omega, by omega⟩
  have e : r = v := by
    have z := (zch_and v).2
    have w : zw v = v := zw_id ⟨by omega, by omega⟩
    have s : zsh v = v := by
      rcases (by omega : v = 97 ∨ v = 98 ∨ v = 99 ∨ v = 100 ∨ v = 101 ∨ v = 102) with rfl | rfl | rfl | rfl | rfl | rfl <;> decide +kernel
    have n0 : m o 1 ≠ 0 → ¬ zI (m o 1) = zI 0 := fun c => zne_i (by omega)
    have n1 : m o 1 ≠ 1 → ¬ zI (m o 1) = zI 1 := fun c => zne_i (by omega)
    have n2 : m o 1 ≠ 2 → ¬ zI (m o 1) = zI 2 := fun c => zne_i (by omega)
    unfold FX6_cut at r2
    by_cases c0 : m o 1 = 0
    · rw [c0, if_pos rfl, z] at r2
      have := Option.some.inj r2; omega
    · rw [if_neg (n0 c0)] at r2
      by_cases c1 : m o 1 = 1
      · rw [c1, if_pos rfl, w, s, zgd_p (by omega)] at r2
        exact (Option.some.inj r2).symm
      · rw [if_neg (n1 c1)] at r2
        by_cases c2 : m o 1 = 2
        · rw [c2, if_pos rfl, w, zgd_p (by omega)] at r2
          exact (Option.some.inj r2).symm
        · rw [if_neg (n2 c2)] at r2
          exact (Option.some.inj r2).symm
  rw [← e]; rw [e] at r1 ⊢; exact r1
theorem spell_LL {a1 a2 a3 a4 k5 k7 : Int} {K K' : Int → zM → Option (Int × zM)} (ha : 0 ≤ a2 ∧ a2 < 4) (h1 : 0 ≤ a4) (h2 : a4 + k5 ≤ 48) (hv : 0 ≤ a1 ∧ a1 < 48) (h7 : 0 ≤ k7) : ∀ (r f : Nat) (v : Int) (mC mM : zM), zRel mC mM → 0 ≤ v → v + r = k5 → k7 + k5 ≤ mC 1 9 → mM 10 a1 = k7 → 0 ≤ mM 6 a2 → r < f →
    ∃ mC' mM', FX5_spell_L72 a1 a2 a3 a4 k5 k7 K f v mC = K k5 mC' ∧ FX6_spell_L72 a1 a2 a3 a4 k5 K' f v mM = K' k5 mM' ∧ zRel mC' mM' := by
  intro r
  induction r with
  | zero =>
    intro f v mC mM h v0 v1 v2 v3 v4 hf
    obtain ⟨f, rfl⟩ : ∃ g, f = g + 1 := ⟨f - 1, by omega⟩
    refine ⟨mC, mM, ?_, ?_, h⟩
    · rw [FX5_spell_L72_s]; unfold FX5_spell_L72_B; rw [if_neg (znlt_i (by omega)), show v = k5 by omega]
    · rw [FX6_spell_L72_s]; unfold FX6_spell_L72_B; rw [if_neg (znlt_i (by omega)), show v = k5 by omega]
  | succ r ih =>
    intro f v mC mM h v0 v1 v2 v3 v4 hf
    obtain ⟨f, rfl⟩ : ∃ g, f = g + 1 := ⟨f - 1, by omega⟩
    have hb : 0 ≤ mC 1 9 ∧ mC 1 9 ≤ 48 := h.t.ct.1
    have hl : 97 ≤ mC 2 (k7 + v) ∧ mC 2 (k7 + v) ≤ 102 := h.t.ct.2.1 (k7 + v) (by omega) (show _ < mC 1 9 by omega)
    have hx := h.t.x (k7 + v) (by omega) (by omega)
    have hlane : 0 ≤ mC (36 + 2 * a2.toNat) 1 ∧ mC (36 + 2 * a2.toNat) 1 ≤ 3 := by
      rcases h.ss a2 ha.1 ha.2 with q | q
      · omega
      · omega
    have hr : zRel (zup mC (36 + 2 * a2.toNat + 1) (a4 + v) (mC 2 (k7 + v))) (zup mM 8 (48 * a2 + (a4 + v)) (mC 2 (k7 + v))) := zRel_ss h (item_both h.ss ha (by omega) (by omega)) (fun c hc => zup_o _ _ _ (by omega)) (fun c hc => zup_o _ _ _ (by omega))
    obtain ⟨mC', mM', e1, e2, e3⟩ := ih f (v + 1) _ _ hr (by omega) (by omega) (by rw [zup_o _ _ _ (by omega)]; omega) (by rw [zup_o _ _ _ (by omega)]; exact v3) (by rw [zup_o _ _ _ (by omega)]; exact v4) (by omega)
    refine ⟨mC', mM', ?_, ?_, e3⟩
    · rw [FX5_spell_L72_s]
      unfold FX5_spell_L72_B FX4_store
      rw [if_pos (zlt_i (by omega)), zix_p ⟨by omega, by omega⟩, zrd_p ⟨by omega, by omega⟩, zgd_p (by omega), zcl_p (narrow_l hlane hl), zwr_p ⟨by omega, by omega⟩, zrd_p ⟨by omega, by omega⟩, zcl2_p rfl, e1]
    · rw [FX6_spell_L72_s]
      unfold FX6_spell_L72_B
      rw [if_pos (zlt_i (by omega)), zrd_p ⟨by omega, by omega⟩, v3, zrd_p ⟨by omega, by omega⟩, zgd_p (by omega), zwr_p ⟨by omega, by omega⟩, ← hx, show 48 * a2 + a4 + v = 48 * a2 + (a4 + v) by omega, e2]
theorem S_spell (h : zRel mC mM) : zS_spell zRel mC mM := by
  intro a1 h1 a2 h2 a3 h3 a4 h4
  obtain ⟨m1, l1, l2, l3, l4⟩ := lay_t h
  have hN : 0 ≤ mC 1 10 ∧ mC 1 10 ≤ mC 1 9 ∧ mC 1 9 ≤ 48 := zci_N h.t.ct
  obtain ⟨r1, p1, p2⟩ := nod5 (m := mC) h1 (by omega)
  obtain ⟨r2, p3, p4⟩ := wi6 (n := m1 0 12) h1 (by rw [l2.2.2.1]; omega)
  rw [l2.2.2.1] at p4
  have g1 : zR (m1 0 12 - 1) := by rw [l2.2.2.1]; omega
  obtain ⟨r3, p5, p6⟩ := she5 h2
  obtain ⟨r4, p7, p8⟩ := she6 h2
  obtain ⟨r5, p9, p10⟩ := lan5 h3
  obtain ⟨r6, p11, p12⟩ := w6 (a := a3) (lo := 0) (hi := 3) ⟨h3, by omega, by omega⟩
  unfold FX5_spell FX6_spell
  rw [zcl_p p1, zcl_p l1, zgd_p h1, zgd_p g1, zcl_p p3]
  by_cases c : 0 ≤ a1 ∧ a1 < mC 1 10
  · rw [if_neg (zyn_1 p2 c), if_neg (zyn_1 p4 c), zcl_p p5, zcl_p p7]
    by_cases c2 : 0 ≤ a2 ∧ a2 ≤ 3
    · rw [if_neg (zyn_1 p6 c2), if_neg (zyn_1 p8 c2), zcl_p p9, zgd_p h3, zcl_p p11]
      by_cases c3 : 0 ≤ a3 ∧ a3 ≤ 3
      · obtain ⟨w1, w2⟩ := l2.2.2.2 a1 c.1 c.2
        obtain ⟨z1, z2, z3, z4⟩ := zLd_Z l2 c.1 c.2
        have b0 : m1 0 0 = mC 1 9 := l3.t.n
        obtain ⟨q, q1, q2, q3⟩ := why_both l3.ss (s := a2) (l := a3) (i := a4) (n := mC 4 a1) (by omega) h3 h4 (by omega)
        rw [if_neg (zyn_1 p10 c3), if_neg (zyn_1 p12 c3), zrd_p ⟨by omega, by omega⟩, zix_p ⟨by omega, by omega⟩, zcl_p q1, zrd_p ⟨by omega, by omega⟩, w1, zcl_p q2]
        by_cases c4 : q = 0
        · have z4' : zI q = zI 0 := by rw [c4]
          have f : FX1_firstPlace 1 a1 mC = some (mC 8 a1 - mC 4 a1 + 1) := fp5 ⟨by omega, by omega⟩
          have hC : 0 ≤ m1 6 a2 ∧ 0 ≤ a4 ∧ a4 + mC 4 a1 ≤ m1 7 a2 := by
            rcases q3 with q3 | q3 | ⟨q3, q4, q5⟩ <;> omega
          have h7 : m1 7 a2 ≤ 48 := by
            rcases l3.ss a2 c2.1 (by omega) with k | k <;> omega
          rw [if_pos z4', if_pos z4', zcl_p f]
          obtain ⟨mC', mM', e1, e2, e3⟩ := spell_LL (a1 := a1) (a2 := a2) (a3 := a3) (a4 := a4) (k5 := mC 4 a1) (k7 := mC 8 a1 - mC 4 a1 + 1) (K := fun y72_8 m72_ => some (mC 4 a1, m72_)) (K' := fun y72_7 m72_ => some (mC 4 a1, m72_)) (by omega) (by omega) (by omega) (by omega) (by omega) (mC 4 a1).toNat zfu 0 mC m1 l3 (by omega) (by omega) (by omega) (by omega) (by omega) (by show _ < 4000; omega)
          rw [e1, e2]
          exact ⟨_, _, _, rfl, rfl, e3⟩
        · have z4' : ¬ zI q = zI 0 := zne_i (by omega)
          rw [if_neg z4', if_neg z4']
          exact ⟨_, _, _, rfl, rfl, l3⟩
      · rw [if_pos (zyn_0 p10 c3), if_pos (zyn_0 p12 c3)]
        exact ⟨_, _, _, rfl, rfl, l3⟩
    · rw [if_pos (zyn_0 p6 c2), if_pos (zyn_0 p8 c2)]
      exact ⟨_, _, _, rfl, rfl, l3⟩
  · rw [if_pos (zyn_0 p2 c), if_pos (zyn_0 p4 c)]
    exact ⟨_, _, _, rfl, rfl, l3⟩
/-- the text tried out in the other catalogue -/
theorem trial_t (h : zRel mC mM) : ∃ m', FX1_load 11 2 48 0 (mC 1 9) mC = some m' ∧ zCI m' 11 ∧ m' 11 9 = mC 1 9 ∧ (∀ q, 0 ≤ q → q < mC 1 9 → m' 12 q = mC 2 q) ∧ zfr 11 mC m' ∧ m' 11 10 = mC 1 10 := by
  have hb : 0 ≤ mC 1 9 ∧ mC 1 9 ≤ 48 := h.t.ct.1
  obtain ⟨m', a1, a2, a3, a4, a5⟩ := load_spec (o := 11) (c := 2) (n1 := 48) (i := 0) (j := mC 1 9) h.cr (by omega) (by omega) (by omega) (by omega) (by omega) (fun q q0 q1 => h.t.ct.2.1 q q0 q1)
  have a4 : ∀ q, 0 ≤ q → q < mC 1 9 - 0 → m' 12 q = mC 2 (0 + q) := a4
  have a3' : m' 11 9 = mC 1 9 := by omega
  have hx : ∀ q, 0 ≤ q → q < mC 1 9 → m' 12 q = mC 2 q := fun q q0 q1 => by rw [a4 q q0 (by omega), show 0 + q = q by omega]
  refine ⟨m', a1, a2, a3', hx, a5, ?_⟩
  have n1 := zNd_ct a2.2.2.1 (by rw [a3']; exact hb.1)
  have n2 := zNd_ct (zNd_cg h.t.ct.2.2.1 (fun i i0 i1 => (hx i i0 i1).symm)) hb.1
  rw [a3'] at n1
  exact n1.trans n2.symm
theorem S_next (h : zRel mC mM) : zS_next zRel mC mM := by
  intro a1 h1 a2 h2
  have hb : 0 ≤ mC 1 9 ∧ mC 1 9 ≤ 48 := h.t.ct.1
  obtain ⟨r1, p1, p2⟩ := let5 h1
  obtain ⟨r2, p3, p4⟩ := let6 h1
  obtain ⟨r3, p5, p6⟩ := w5 (a := a2) (lo := 0) (hi := 1) ⟨h2, by omega, by omega⟩
  obtain ⟨r4, p7, p8⟩ := w6 (a := a2) (lo := 0) (hi := 1) ⟨h2, by omega, by omega⟩
  unfold FX5_next FX6_next
  rw [zcl_p p1, zcl_p p3]
  by_cases c : 97 ≤ a1 ∧ a1 ≤ 102
  · rw [if_neg (zyn_1 p2 c), if_neg (zyn_1 p4 c), zcl_p p5, zgd_p h2, zcl_p p7]
    by_cases c2 : 0 ≤ a2 ∧ a2 ≤ 1
    · rw [if_neg (zyn_1 p6 c2), if_neg (zyn_1 p8 c2)]
      by_cases c3 : mC 1 9 = 48
      · rw [if_pos (show zI (mC 1 9) = zI 48 by rw [c3]), if_pos (show zI (mM 0 0) = zI 48 by rw [h.t.n, c3])]
        exact ⟨_, _, _, rfl, rfl, h⟩
      · obtain ⟨m3, a1', a2', a3, a4, a5, a6⟩ := trial_t h
        obtain ⟨r, m4, b1, b2, b3, b4, b5, b6, b7⟩ := add_spec a2' (a := a1) (by omega) c
        have b4 : m4 12 = zuf (m3 12) (m3 11 9) a1 := b4
        obtain ⟨m5, hm5⟩ : ∃ q, q = zup (zup mM 1 (mM 0 0) (a1 - 97)) 0 0 (mM 0 0 + 1) := ⟨_, rfl⟩
        have e00 : m5 0 0 = mC 1 9 + 1 := by rw [hm5, zup_c, zuf_e, h.t.n]
        have e0 : ∀ i : Int, i ≠ 0 → m5 0 i = mM 0 i := fun i hi => by rw [hm5, zup_c, zuf_d _ _ hi, zup_o _ _ _ (by omega)]
        have e1 : m5 1 = zuf (mM 1) (mC 1 9) (a1 - 97) := by rw [hm5, zup_o _ _ _ (by omega), zup_c, h.t.n]
        have ec : ∀ c : Nat, 2 ≤ c → m5 c = mM c := fun c hc => by rw [hm5, zup_o _ _ _ (by omega), zup_o _ _ _ (by omega)]
        have hx : ∀ i, 0 ≤ i → i ≤ mC 1 9 → m4 12 i = zx m5 i := fun i i0 i1 => by
          unfold zx
          rw [b4, e1, a3]
          by_cases e : i = mC 1 9
          · subst e; rw [zuf_e, zuf_e]; omega
          · rw [zuf_d _ _ e, zuf_d _ _ e, a4 i i0 (by omega)]; exact h.t.x i i0 (by omega)
        have hT : zTm m5 := ⟨by omega, by omega, fun i i0 i1 => by
          have q : 97 ≤ m4 12 i ∧ m4 12 i ≤ 102 := b2.2.1 i i0 (by rw [b3, a3]; omega)
          have := hx i i0 (by omega)
          unfold zx at this
          omega⟩
        obtain ⟨k, k1, k2⟩ := longest_spec hT (p := mC 1 9) (by omega) (by omega)
        obtain ⟨w, k', w1, w2, w3⟩ := isNew_spec hT (p := mC 1 9) (by omega) (by omega)
        have b5' : zL (zx m5) (mC 1 9) r := by
          rw [a3] at b5
          exact zL_cg (fun q q0 q1 => hx q q0 q1) b5
        have ek := zL_u k2 b5'
        have ek' := zL_u w2 b5'
        subst ek'
        have n3 : ¬ zI (mC 1 9) = zI 48 := zne_i (by omega)
        rw [if_neg n3, if_neg (by rw [h.t.n]; exact n3), zcl_p a1', zcl2_p b1, zcl_p (push_spec (by rw [h.t.n]; omega)), ← hm5, zjn_p, e00, show mC 1 9 + 1 - 1 = mC 1 9 by omega]
        dsimp only
        have hE : zcE mC m4 := zcE_fr b2 (zfr_tr a5 b6)
        have hE2 : zmE mM (zup m5 0 0 (mC 1 9)) := ⟨fun c c1 c2 => by rw [zup_o _ _ _ (by omega), ec c (by omega)], by rw [zup_c, zuf_e, h.t.n], by rw [zup_c, zuf_d _ _ (by omega), e0 2 (by omega)], by rw [zup_c, zuf_d _ _ (by omega), e0 6 (by omega)], fun i i0 i1 => by rw [zup_o _ _ _ (by omega), e1, zuf_d _ _ (by rw [h.t.n] at i1; omega)]⟩
        have hR := zRel_E h hE hE2
        have e10 : m4 1 10 = mC 1 10 := by rw [b6 1 (by omega), a5 1 (by omega)]
        by_cases c4 : a2 = 0
        · rw [if_pos (show zI a2 = zI 0 by rw [c4]), if_pos (show zI a2 = zI 0 by rw [c4]), zcl_p k1, ek, zpf_p]
          exact ⟨_, _, _, rfl, rfl, hR⟩
        · have n4 : ¬ zI a2 = zI 0 := zne_i (by omega)
          rw [if_neg n4, if_neg n4, zcl_p w1, zpf_p, e10]
          have q : (m4 11 10 - mC 1 10 = 1 ∧ zN (zx m5) (mC 1 9) k') ∨ (m4 11 10 - mC 1 10 = 0 ∧ ¬ zN (zx m5) (mC 1 9) k') := by
            rw [a3] at b7
            have kb := w2.2.1
            have kc := w2.1
            rcases b7 with ⟨q1, q2⟩ | ⟨q1, q2⟩
            · exact Or.inl ⟨by omega, zN_cg (fun q q0 q1 => hx q q0 q1) kb (by omega) q2⟩
            · exact Or.inr ⟨by omega, fun hh => q2 (zN_cg (fun q q0 q1 => (hx q q0 q1).symm) kb (by omega) hh)⟩
          rcases q with ⟨q1, q2⟩ | ⟨q1, q2⟩
          · rw [if_neg (zyn_1 w3 q2), q1]
            exact ⟨_, _, _, rfl, rfl, hR⟩
          · rw [if_pos (zyn_0 w3 q2), q1]
            exact ⟨_, _, _, rfl, rfl, hR⟩
    · rw [if_pos (zyn_0 p6 c2), if_pos (zyn_0 p8 c2)]
      exact ⟨_, _, _, rfl, rfl, h⟩
  · rw [if_pos (zyn_0 p2 c), if_pos (zyn_0 p4 c)]
    exact ⟨_, _, _, rfl, rfl, h⟩
end SC
