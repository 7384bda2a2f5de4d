theorem zRel_ta {mC mM mC' mM' : zM} (h : zRel mC mM) (t : zTx mC' mM') (ac : zAc mC' mM' (mC' 1 9)) (ec : ∀ c : Nat, (11 ≤ c ∧ c ≤ 20) ∨ 29 ≤ c → mC' c = mC c) (em : ∀ c : Nat, 3 ≤ c → c ≤ 8 → mM' c = mM c) (e6 : mM' 0 6 = mM 0 6) : zRel mC' mM' :=
  ⟨t, zCI_cg h.cr (fun k hk => ec _ (by omega)), ac, zIg_cg h.ig (fun c h1 h2 => ec c (by omega)) (em 3 (by omega) (by omega)) (em 4 (by omega) (by omega)), zTp_cg h.tp (fun c h1 h2 => ec c (by omega)) (em 5 (by omega) (by omega)) e6, zSs_cg h.ss (fun c h1 h2 => ec c (by omega)) (em 6 (by omega) (by omega)) (em 7 (by omega) (by omega)) (em 8 (by omega) (by omega))⟩
theorem push_spec {m : zM} {a : Int} (h : 0 ≤ m 0 0 ∧ m 0 0 < 48) : FX6_push a m = some (zup (zup m 1 (m 0 0) a) 0 0 (m 0 0 + 1)) := by
  unfold FX6_push
  rw [zwr_p ⟨by omega, by omega⟩, zpf_p, zup_o _ _ _ (show (0 : Nat) ≠ 1 by omega)]
section PU
variable {mC mM : zM}
/-- a letter more, in both -/
theorem add_both (t : zTx mC mM) (hn : mC 1 9 < 48) {a : Int} (ha : 97 ≤ a ∧ a ≤ 102) : ∃ r mC' mM', FX1_add 1 a mC = some (r, mC') ∧ FX6_push (a - 97) mM = some mM' ∧ zTx mC' mM' ∧ mC' 1 9 = mC 1 9 + 1 ∧ zL (zx mM') (mC 1 9) r ∧ zfr 1 mC mC' ∧ (∀ c : Nat, 2 ≤ c → mM' c = mM c) ∧ (∀ i : Int, i ≠ 0 → mM' 0 i = mM 0 i) := by
  have hb := t.ct.1
  obtain ⟨r, mC', a1, a2, a3, a4, a5, a6, a7⟩ := add_spec t.ct hn ha
  have a4 : mC' 2 = zuf (mC 2) (mC 1 9) a := a4
  have hx : ∀ i, 0 ≤ i → i < mC 1 9 + 1 → mC' 2 i = zx (zup (zup mM 1 (mM 0 0) (a - 97)) 0 0 (mM 0 0 + 1)) i := fun i i0 i1 => by
    unfold zx
    rw [zup_o _ _ _ (show (1 : Nat) ≠ 0 by omega), zup_c, a4, t.n]
    by_cases e : i = mC 1 9
    · subst e; rw [zuf_e, zuf_e]; omega
    · rw [zuf_d _ _ e, zuf_d _ _ e]; exact t.x i i0 (by omega)
  refine ⟨r, mC', _, a1, push_spec (by rw [t.n]; exact ⟨hb.1, hn⟩), ⟨a2, ?_, fun i i0 i1 => hx i i0 (by omega)⟩, a3, ?_, a6, fun c hc => ?_, fun i hi => ?_⟩
  · rw [zup_c, zuf_e, a3, t.n]
  · exact zL_cg (fun q q0 q1 => hx q q0 (by omega)) a5
  · rw [zup_o _ _ _ (by omega), zup_o _ _ _ (by omega)]
  · rw [zup_c, zuf_d _ _ hi, zup_o _ _ _ (by omega)]
theorem S_put (h : zRel mC mM) : zS_put zRel mC mM := by
  intro a1 ha
  have hb := h.t.ct.1
  obtain ⟨r1, p1, p2⟩ := let5 ha
  obtain ⟨r2, p3, p4⟩ := let6 ha
  unfold FX5_put FX6_put
  rw [zcl_p p1, zcl_p p3]
  by_cases c : 97 ≤ a1 ∧ a1 ≤ 102
  · rw [if_neg (zyn_1 p2 c), if_neg (zyn_1 p4 c)]
    by_cases c2 : mC 1 9 = 48
    · rw [if_pos (by rw [c2]), if_pos (by rw [h.t.n, c2])]
      exact ⟨_, _, _, rfl, rfl, h⟩
    · rw [if_neg (zne_i (by omega)), if_neg (by rw [h.t.n]; exact zne_i (by omega))]
      obtain ⟨mC1, mM1, b1, b2, b3, b4, b5, b6⟩ := note_both (k := 0) (p := mC 1 9) (l := a1) (c := 0) (n' := mC 1 9 + 1) h.ac (by omega) (Or.inl ⟨rfl, rfl, rfl⟩)
      have t1 : zTx mC1 mM1 := zTx_cg h.t (fun c c1 c2 => b4 c (by omega)) (b6 0 (by omega)) (fun i _ _ => by rw [b5 1 (by omega) (by omega)])
      have e9 : mC1 1 9 = mC 1 9 := by rw [b4 1 (by omega)]
      obtain ⟨r, mC2, mM2, d1, d2, d3, d4, d5, d6, d7, d8⟩ := add_both t1 (by omega) c
      obtain ⟨k, k1, k2⟩ := longest_spec d3.T (p := mC 1 9) (by omega) (by rw [d3.n, d4]; omega)
      rw [zcl_p b1, zcl_p b2, zcl2_p d1, zcl_p d2, show mM2 0 0 - 1 = mC 1 9 by rw [d3.n, d4]; omega, zcl_p k1]
      have e := zL_u d5 (by rw [e9]; exact k2)
      subst e
      refine ⟨_, _, _, rfl, rfl, zRel_ta h d3 ?_ (fun c hc => by rw [d6 c (by omega), b4 c (by omega)]) (fun c c1 c2 => by rw [d7 c (by omega), b5 c (by omega) (by omega)]) (by rw [d8 6 (by omega), b6 6 (by omega)])⟩
      rw [d4, e9]
      exact zAc_cg b3 (fun c c1 c2 => d6 c (by omega)) (d8 2 (by omega)) (d7 2 (by omega))
  · rw [if_pos (zyn_0 p2 c), if_pos (zyn_0 p4 c)]
    exact ⟨_, _, _, rfl, rfl, h⟩
/-- a letter less, in both -/
theorem rem_both (t : zTx mC mM) (hn : 1 ≤ mC 1 9) : ∃ mC', FX1_removeLast 1 mC = some mC' ∧ zTx mC' (zup mM 0 0 (mM 0 0 - 1)) ∧ mC' 1 9 = mC 1 9 - 1 ∧ mC' 2 = mC 2 ∧ zfr 1 mC mC' := by
  obtain ⟨mC', a1, a2, a3, a4, a5⟩ := rem_spec t.ct hn
  have a4 : mC' 2 = mC 2 := a4
  refine ⟨mC', a1, ⟨a2, ?_, fun i i0 i1 => ?_⟩, a3, a4, a5⟩
  · rw [zup_c, zuf_e, t.n, a3]
  · rw [zup_o _ _ _ (by omega), a4]; exact t.x i i0 (by omega)
theorem S_pop (h : zRel mC mM) : zS_pop zRel mC mM := by
  have hb := h.t.ct.1
  unfold zS_pop FX5_pop FX6_pop
  by_cases c : mC 1 9 = 0
  · rw [if_pos (by rw [c]), if_pos (by rw [h.t.n, c])]
    exact ⟨_, _, _, rfl, rfl, h⟩
  · rw [if_neg (zne_i (by omega)), if_neg (by rw [h.t.n]; exact zne_i (by omega))]
    have hl : FX1_lastLetter 1 mC = some (mC 2 (mC 1 9 - 1)) := by
      unfold FX1_lastLetter
      rw [if_neg (zne_i (by omega)), zrd_p ⟨by omega, by omega⟩]
    have hx := h.t.x (mC 1 9 - 1) (by omega) (by omega)
    have hr : 97 ≤ mC 2 (mC 1 9 - 1) ∧ mC 2 (mC 1 9 - 1) ≤ 102 := h.t.ct.2.1 (mC 1 9 - 1) (by omega) (by omega)
    obtain ⟨mC1, a1, a2, a3, a4, a5⟩ := rem_both h.t (by omega)
    obtain ⟨mM1, hm1⟩ : ∃ q, q = zup mM 0 0 (mM 0 0 - 1) := ⟨_, rfl⟩
    rw [← hm1] at a2
    have em : ∀ c : Nat, c ≠ 0 → mM1 c = mM c := fun c hc => by rw [hm1, zup_o _ _ _ hc]
    have em0 : ∀ i : Int, i ≠ 0 → mM1 0 i = mM 0 i := fun i hi => by rw [hm1, zup_c, zuf_d _ _ hi]
    have e0 : mM1 0 0 = mC 1 9 - 1 := by rw [a2.n, a3]
    have ac1 : zAc mC1 mM1 (mC 1 9) := zAc_cg h.ac (fun c c1 c2 => a5 c (by omega)) (em0 2 (by omega)) (em 2 (by omega))
    obtain ⟨mC2, mM2, b1, b2, b3, b4, b5, b6⟩ := note_both (k := 1) (p := mC1 1 9) (l := mC 2 (mC 1 9 - 1)) (c := 1 + mM1 1 (mM1 0 0)) (n' := mC 1 9 - 1) ac1 (by omega) (Or.inr (Or.inl ⟨rfl, by rw [e0, em 1 (by omega)]; omega, hr, by omega⟩))
    rw [zcl_p hl, zcl_p a1, zcl_p b1, zpf_p, ← hm1, zrd_p ⟨by omega, by omega⟩, zcl_p b2, b6 0 (by omega), zrd_p ⟨by omega, by omega⟩, b5 1 (by omega) (by omega), e0, em 1 (by omega), ← hx]
    refine ⟨_, _, _, rfl, rfl, zRel_ta h (zTx_cg a2 (fun c c1 c2 => b4 c (by omega)) (b6 0 (by omega)) (fun i _ _ => by rw [b5 1 (by omega) (by omega)])) ?_ (fun c hc => by rw [b4 c (by omega), a5 c (by omega)]) (fun c c1 c2 => by rw [b5 c (by omega) (by omega), em c (by omega)]) (by rw [b6 6 (by omega), em0 6 (by omega)])⟩
    rw [b4 1 (by omega), a3]
    exact b3
/-- another letter at a place, in both -/
theorem rep_both (t : zTx mC mM) {p a : Int} (hp : 0 ≤ p) (hp2 : p < mC 1 9) (ha : 97 ≤ a ∧ a ≤ 102) : ∃ mC', FX1_replace 1 p a mC = some mC' ∧ zTx mC' (zup mM 1 p (a - 97)) ∧ mC' 1 9 = mC 1 9 ∧ zfr 1 mC mC' := by
  obtain ⟨mC', a1, a2, a3, a4, a5⟩ := replace_spec t.ct hp hp2 ha
  have a4 : mC' 2 = zuf (mC 2) p a := a4
  refine ⟨mC', a1, ⟨a2, ?_, fun i i0 i1 => ?_⟩, a3, a5⟩
  · rw [zup_o _ _ _ (by omega), t.n, a3]
  · rw [zup_c, a4]
    by_cases e : i = p
    · subst e; rw [zuf_e, zuf_e]; omega
    · rw [zuf_d _ _ e, zuf_d _ _ e]; exact t.x i i0 (by omega)
theorem S_change (h : zRel mC mM) : zS_change zRel mC mM := by
  intro a1 ha1 a2 ha2
  have hb := h.t.ct.1
  obtain ⟨r1, p1, p2⟩ := pla5 ha1 hb
  obtain ⟨r2, p3, p4⟩ := wi6 ha1 (n := mM 0 0) (by rw [h.t.n]; exact hb)
  obtain ⟨r3, p5, p6⟩ := let5 ha2
  obtain ⟨r4, p7, p8⟩ := let6 ha2
  rw [h.t.n] at p4
  unfold FX5_change FX6_change
  rw [zcl_p p1, zgd_p ha1, zgd_p (by rw [h.t.n]; omega), zcl_p p3]
  by_cases c : 0 ≤ a1 ∧ a1 < mC 1 9
  · rw [if_neg (zyn_1 p2 c), if_neg (zyn_1 p4 c), zcl_p p5, zcl_p p7]
    by_cases c2 : 97 ≤ a2 ∧ a2 ≤ 102
    · have hx := h.t.x a1 c.1 c.2
      have hr : 97 ≤ mC 2 a1 ∧ mC 2 a1 ≤ 102 := h.t.ct.2.1 a1 c.1 c.2
      rw [if_neg (zyn_1 p6 c2), if_neg (zyn_1 p8 c2), zrd_p ⟨by omega, by omega⟩, zrd_p ⟨by omega, by omega⟩]
      by_cases c3 : mC 2 a1 = a2
      · rw [if_pos (by rw [c3]), if_pos (congrArg zI (by omega))]
        exact ⟨_, _, _, rfl, rfl, h⟩
      · rw [if_neg (zne_i (by omega)), if_neg (zne_i (by omega))]
        obtain ⟨mC1, d1, d2, d3, d4⟩ := rep_both h.t c.1 c.2 c2
        have ac1 : zAc mC1 mM (mC 1 9) := zAc_cg h.ac (fun c c1 c2 => d4 c (by omega)) rfl rfl
        obtain ⟨mC2, mM2, b1, b2, b3, b4, b5, b6⟩ := note_both (k := 2) (p := a1) (l := mC 2 a1) (c := 100 + 10 * a1 + mM 1 a1) (n' := mC 1 9) ac1 (by omega) (Or.inr (Or.inr ⟨rfl, by omega, hr, c, rfl⟩))
        rw [zcl_p d1, zcl_p b1, zcl_p b2, zwr_p ⟨by omega, by omega⟩, ← hx]
        refine ⟨_, _, _, rfl, rfl, zRel_ta h (zTx_cg d2 (fun c c1 c2 => b4 c (by omega)) ?_ (fun i _ _ => ?_)) ?_ (fun c hc => by rw [b4 c (by omega), d4 c (by omega)]) (fun c c1 c2 => by rw [zup_o _ _ _ (by omega), b5 c (by omega) (by omega)]) (by rw [zup_o _ _ _ (by omega), b6 6 (by omega)])⟩
        · rw [zup_o _ _ _ (by omega), zup_o _ _ _ (by omega), b6 0 (by omega)]
        · rw [zup_c, zup_c, b5 1 (by omega) (by omega)]
        · rw [b4 1 (by omega), d3]
          exact zAc_cg b3 (fun _ _ _ => rfl) (by rw [zup_o _ _ _ (by omega)]) (by rw [zup_o _ _ _ (by omega)])
    · rw [if_pos (zyn_0 p6 c2), if_pos (zyn_0 p8 c2)]
      exact ⟨_, _, _, rfl, rfl, h⟩
  · rw [if_pos (zyn_0 p2 c), if_pos (zyn_0 p4 c)]
    exact ⟨_, _, _, rfl, rfl, h⟩
theorem S_letter (h : zRel mC mM) : zS_letter zRel mC mM := by
  intro a1 ha1
  have hb := h.t.ct.1
  obtain ⟨r1, p1, p2⟩ := pla5 ha1 hb
  obtain ⟨r2, p3, p4⟩ := wi6 ha1 (n := mM 0 0) (by rw [h.t.n]; exact hb)
  rw [h.t.n] at p4
  unfold FX5_letter FX6_letter
  rw [zcl_p p1, zgd_p ha1, zgd_p (by rw [h.t.n]; omega), zcl_p p3]
  by_cases c : 0 ≤ a1 ∧ a1 < mC 1 9
  · rw [if_neg (zyn_1 p2 c), if_neg (zyn_1 p4 c), zrd_p ⟨by omega, by omega⟩, zrd_p ⟨by omega, by omega⟩, h.t.x a1 c.1 c.2]
    exact ⟨_, rfl, rfl, h⟩
  · rw [if_pos (zyn_0 p2 c), if_pos (zyn_0 p4 c)]
    exact ⟨_, rfl, rfl, h⟩
theorem S_undo (h : zRel mC mM) : zS_undo zRel mC mM := by
  have hb := h.t.ct.1
  obtain ⟨g1, g2, g3⟩ := h.ac
  unfold zS_undo FX5_undo FX6_undo
  by_cases c : mC 21 3 = 0
  · rw [if_pos (by rw [c]), if_pos (by rw [g1, c])]
    exact ⟨_, _, _, rfl, rfl, h⟩
  · rw [if_neg (zne_i (by omega)), if_neg (by rw [g1]; exact zne_i (by omega))]
    obtain ⟨b, hbb⟩ : ∃ b : Nat, mC 21 3 = b + 1 := ⟨(mC 21 3 - 1).toNat, by omega⟩
    rw [hbb, show ((b : Int) + 1).toNat = b + 1 by omega] at g3
    obtain ⟨n0, n1, n2, n3⟩ := g3
    unfold FX0_takeBackLatest
    rw [zpf_p, zpf_p]
    obtain ⟨mC1, hC1⟩ : ∃ q, q = zup mC 21 3 (mC 21 3 - 1) := ⟨_, rfl⟩
    obtain ⟨mM1, hM1⟩ : ∃ q, q = zup mM 0 2 (mM 0 2 - 1) := ⟨_, rfl⟩
    rw [← hC1, ← hM1]
    have eC : ∀ c : Nat, c ≠ 21 → mC1 c = mC c := fun c hc => by rw [hC1, zup_o _ _ _ hc]
    have eM : ∀ c : Nat, c ≠ 0 → mM1 c = mM c := fun c hc => by rw [hM1, zup_o _ _ _ hc]
    have eM0 : ∀ i : Int, i ≠ 2 → mM1 0 i = mM 0 i := fun i hi => by rw [hM1, zup_c, zuf_d _ _ hi]
    have a1 : mC1 21 3 = b := by rw [hC1, zup_c, zuf_e]; omega
    have a2 : mM1 0 2 = b := by rw [hM1, zup_c, zuf_e, g1]; omega
    have t1 : zTx mC1 mM1 := zTx_cg h.t (fun c c1 c2 => eC c (by omega)) (eM0 0 (by omega)) (fun i _ _ => by rw [eM 1 (by omega)])
    have e9 : mC1 1 9 = mC 1 9 := by rw [eC 1 (by omega)]
    have ac1 : zAc mC1 mM1 n0 := by
      refine ⟨by rw [a1, a2], by omega, ?_⟩
      rw [a1, eC 22 (by omega), eC 23 (by omega), eC 24 (by omega), eM 2 (by omega), show ((b : Int)).toNat = b by omega]
      exact n3
    rw [a1, a2, zrd_p ⟨by omega, by omega⟩, zrd_p ⟨by omega, by omega⟩, zrd_p (m := mM1) ⟨by omega, by omega⟩, eC 22 (by omega), eM 2 (by omega)]
    rcases n2 with ⟨z1, z2, z3⟩ | ⟨z1, z2, z3, z4⟩ | ⟨z1, z2, z3, z4, z5⟩
    · obtain ⟨mC2, d1, d2, d3, d4, d5⟩ := rem_both t1 (by omega)
      rw [if_pos (by rw [z1]), zcl_p d1, zcl_p rfl, if_pos (by rw [z2]), zpf_p]
      refine ⟨b, mC2, _, by rw [d5 21 (by omega), a1], by rw [zup_c, zuf_d _ _ (by omega), a2], zRel_ta h d2 ?_ (fun c hc => by rw [d5 c (by omega), eC c (by omega)]) (fun c c1 c2 => by rw [zup_o _ _ _ (by omega), eM c (by omega)]) (by rw [zup_c, zuf_d _ _ (by omega), eM0 6 (by omega)])⟩
      rw [d3, e9, show mC 1 9 - 1 = n0 by omega]
      exact zAc_cg ac1 (fun c c1 c2 => d5 c (by omega)) (by rw [zup_c, zuf_d _ _ (by omega)]) (by rw [zup_o _ _ _ (by omega)])
    · obtain ⟨r, mC2, mM2, d1, d2, d3, d4, d5, d6, d7, d8⟩ := add_both t1 (by omega) z3
      rw [if_neg (by rw [z1]; exact zne_i (by omega)), if_pos (by rw [z1]), zrd_p ⟨by omega, by omega⟩, eC 24 (by omega), zcl2_p d1, zcl_p rfl, if_neg (by rw [z2]; exact zne_i (by omega)), if_pos (by rw [z2]; exact zlt_i (by omega)), z2, show mC 24 (b : Int) - 96 - 1 = mC 24 (b : Int) - 97 by omega, zcl_p d2]
      refine ⟨b, mC2, mM2, by rw [d6 21 (by omega), a1], by rw [d8 2 (by omega), a2], zRel_ta h d3 ?_ (fun c hc => by rw [d6 c (by omega), eC c (by omega)]) (fun c c1 c2 => by rw [d7 c (by omega), eM c (by omega)]) (by rw [d8 6 (by omega), eM0 6 (by omega)])⟩
      rw [d4, e9, show mC 1 9 + 1 = n0 by omega]
      exact zAc_cg ac1 (fun c c1 c2 => d6 c (by omega)) (d8 2 (by omega)) (d7 2 (by omega))
    · obtain ⟨mC2, d1, d2, d3, d4⟩ := rep_both t1 z4.1 (by omega) z3
      rw [if_neg (by rw [z1]; exact zne_i (by omega)), if_neg (by rw [z1]; exact zne_i (by omega)), zrd_p ⟨by omega, by omega⟩, eC 23 (by omega), zrd_p ⟨by omega, by omega⟩, eC 24 (by omega), zcl_p d1, zcl_p rfl, if_neg (by rw [z2]; exact zne_i (by omega)), if_neg (by rw [z2]; exact znlt_i (by omega)), zgd_p (by rw [z2]; exact ⟨by omega, by omega, by omega, by omega⟩), zgd_p (by rw [z2]; exact ⟨by omega, by omega, by omega, by omega⟩), z2, show (100 + 10 * mC 23 (b : Int) + (mC 24 (b : Int) - 97) - 100) / 10 = mC 23 (b : Int) by omega, show (100 + 10 * mC 23 (b : Int) + (mC 24 (b : Int) - 97)) % 10 = mC 24 (b : Int) - 97 by omega, zwr_p ⟨by omega, by omega⟩]
      refine ⟨b, mC2, _, by rw [d4 21 (by omega), a1], by rw [zup_o _ _ _ (by omega), a2], zRel_ta h d2 ?_ (fun c hc => by rw [d4 c (by omega), eC c (by omega)]) (fun c c1 c2 => by rw [zup_o _ _ _ (by omega), eM c (by omega)]) (by rw [zup_o _ _ _ (by omega), eM0 6 (by omega)])⟩
      rw [d3, e9, show mC 1 9 = n0 by omega]
      exact zAc_cg ac1 (fun c c1 c2 => d4 c (by omega)) (by rw [zup_o _ _ _ (by omega)]) (by rw [zup_o _ _ _ (by omega)])
end PU
