/-! keep, back, feed, clear, sheet, drop, item, copy, read -/
theorem zRel_o {mC mM mC' mM' : zM} (h : zRel mC mM) (ig : zIg mC' mM') (tp : zTp mC' mM') (ss : zSs mC' mM') (ec : ∀ c : Nat, c ≤ 24 → mC' c = mC c) (e1 : mM' 1 = mM 1) (e2 : mM' 2 = mM 2) (e0 : ∀ i : Int, i ≠ 6 → mM' 0 i = mM 0 i) : zRel mC' mM' := by
  refine ⟨zTx_cg h.t (fun c h1 h2 => ec c (by omega)) (e0 0 (by omega)) (fun i _ _ => by rw [e1]), zCI_cg h.cr (fun k hk => ec _ (by omega)), ?_, ig, tp, ss⟩
  rw [ec 1 (by omega)]
  exact zAc_cg h.ac (fun c h1 h2 => ec c (by omega)) (e0 2 (by omega)) e2
theorem byte5 {a : Int} (h : zRl a) : ∃ r, FX5_isByte a = some r ∧ zyn r (0 ≤ a ∧ a ≤ 255) := by
  unfold FX5_isByte
  by_cases c1 : a < 0
  · rw [if_pos (zlt_j (by omega))]; exact ⟨0, rfl, Or.inr ⟨rfl, by omega⟩⟩
  · rw [if_neg (znlt_j (by omega))]
    by_cases c2 : 255 < a
    · rw [if_pos (zlt_j (by omega))]; exact ⟨0, rfl, Or.inr ⟨rfl, by omega⟩⟩
    · rw [if_neg (znlt_j (by omega))]; exact ⟨1, rfl, Or.inl ⟨rfl, by omega⟩⟩
section PV
variable {mC mM : zM}
theorem S_keep (h : zRel mC mM) : zS_keep zRel mC mM := by
  intro a1 ha
  have hb := h.t.ct.1
  have hn := h.t.n
  obtain ⟨r1, p1, p2⟩ := w5 (a := a1) (lo := 0) (hi := 1) ⟨ha, by omega, by omega⟩
  obtain ⟨r2, p3, p4⟩ := w6 (a := a1) (lo := 0) (hi := 1) ⟨ha, by omega, by omega⟩
  unfold FX5_keep FX6_keep
  rw [zcl_p p1, zgd_p ha, zcl_p p3]
  by_cases c : 0 ≤ a1 ∧ a1 ≤ 1
  · rw [if_neg (zyn_1 p2 c), if_neg (zyn_1 p4 c), zix_p ⟨by omega, by omega⟩]
    unfold FX3_hold
    rw [zcpy_p (by omega), zpf_p, zcl_p rfl, zcl_p (bring_spec (Or.inl (by omega)) (by omega) (by omega) (by omega) (by omega) (by omega) (by omega)), zwr_p ⟨by omega, by omega⟩]
    obtain ⟨mC', hC⟩ : ∃ q, q = zup (zuc mC (29 + 2 * a1.toNat + 1) (zcp (mC 2) (mC (29 + 2 * a1.toNat + 1)) 0 0 (mC 1 9))) (29 + 2 * a1.toNat) 1 (mC 1 9) := ⟨_, rfl⟩
    obtain ⟨mM1, hM1⟩ : ∃ q, q = zuc mM 3 (zcp (mM 1) (mM 3) 0 (48 * a1) (mM 0 0)) := ⟨_, rfl⟩
    rw [← hC, ← hM1]
    have eC : ∀ c : Nat, c ≠ 29 + 2 * a1.toNat → c ≠ 29 + 2 * a1.toNat + 1 → mC' c = mC c := fun c c1 c2 => by rw [hC, zup_o _ _ _ c1, zuc_ne _ _ c2]
    have eM1 : ∀ c : Nat, c ≠ 3 → mM1 c = mM c := fun c c1 => by rw [hM1, zuc_ne _ _ c1]
    have e0 : mM1 0 0 = mC 1 9 := by rw [eM1 0 (by omega), hn]
    obtain ⟨mM', hM⟩ : ∃ q, q = zup mM1 4 a1 (mM1 0 0) := ⟨_, rfl⟩
    rw [← hM]
    have eM : ∀ c : Nat, c ≠ 3 → c ≠ 4 → mM' c = mM c := fun c c1 c2 => by rw [hM, zup_o _ _ _ c2, eM1 c c1]
    refine ⟨mC 1 9, mC', mM', by rw [eC 1 (by omega) (by omega)], by rw [eM 0 (by omega) (by omega), hn], zRel_o h ?_ (zTp_cg h.tp (fun c h1 h2 => eC c (by omega) (by omega)) (eM 5 (by omega) (by omega)) (by rw [eM 0 (by omega) (by omega)])) (zSs_cg h.ss (fun c h1 h2 => eC c (by omega) (by omega)) (eM 6 (by omega) (by omega)) (eM 7 (by omega) (by omega)) (eM 8 (by omega) (by omega))) (fun c hc => eC c (by omega) (by omega)) (eM 1 (by omega) (by omega)) (eM 2 (by omega) (by omega)) (fun i _ => by rw [eM 0 (by omega) (by omega)])⟩
    intro k k0 k1
    have e4 : mM' 4 = zuf (mM 4) a1 (mC 1 9) := by rw [hM, zup_c, eM1 4 (by omega), e0]
    have e3 : mM' 3 = zcp (mM 1) (mM 3) 0 (48 * a1) (mC 1 9) := by rw [hM, zup_o _ _ _ (by omega), hM1, zuc_at, hn]
    by_cases e : k = a1
    · subst e
      have f1 : mC' (29 + 2 * k.toNat) 1 = mC 1 9 := by rw [hC, zup_c, zuf_e]
      have f2 : mC' (29 + 2 * k.toNat + 1) = zcp (mC 2) (mC (29 + 2 * k.toNat + 1)) 0 0 (mC 1 9) := by rw [hC, zup_o _ _ _ (by omega), zuc_at]
      rw [f1, f2, e4, zuf_e, e3]
      refine ⟨rfl, by omega, fun i i0 i1 => ?_⟩
      rw [zcp_in _ _ (by omega), zcp_in _ _ (by omega), show 0 + (i - 0) = i by omega, show 0 + (48 * k + i - 48 * k) = i by omega]
      have := h.t.T.2.2 i i0 (by omega)
      exact ⟨h.t.x i i0 i1, this.1, this.2⟩
    · rw [eC _ (by omega) (by omega), eC _ (by omega) (by omega), e4, zuf_d _ _ e, e3]
      obtain ⟨g1, g2, g3⟩ := h.ig k k0 k1
      refine ⟨g1, g2, fun i i0 i1 => ?_⟩
      rw [zcp_out _ _ (by omega)]
      exact g3 i i0 i1
  · rw [if_pos (zyn_0 p2 c), if_pos (zyn_0 p4 c)]
    exact ⟨_, _, _, rfl, rfl, h⟩
theorem S_back (h : zRel mC mM) : zS_back zRel mC mM := by
  intro a1 ha
  have hb := h.t.ct.1
  have hn := h.t.n
  obtain ⟨r1, p1, p2⟩ := w5 (a := a1) (lo := 0) (hi := 1) ⟨ha, by omega, by omega⟩
  obtain ⟨r2, p3, p4⟩ := w6 (a := a1) (lo := 0) (hi := 1) ⟨ha, by omega, by omega⟩
  unfold FX5_back FX6_back
  rw [zcl_p p1, zgd_p ha, zcl_p p3]
  by_cases c : 0 ≤ a1 ∧ a1 ≤ 1
  · obtain ⟨g1, g2, g3⟩ := h.ig a1 c.1 (by omega)
    rw [if_neg (zyn_1 p2 c), if_neg (zyn_1 p4 c), zix_p ⟨by omega, by omega⟩, zrd_p ⟨by omega, by omega⟩]
    by_cases c2 : mM 4 a1 = -1
    · rw [if_pos (by rw [g1, c2]), if_pos (by rw [c2]; exact zlt_i (by omega))]
      exact ⟨_, _, _, rfl, rfl, h⟩
    · obtain ⟨mC1, d1, d2, d3, d4, d5⟩ := load_spec (o := 1) (c := 29 + 2 * a1.toNat + 1) (n1 := 48) (i := 0) (j := mM 4 a1) h.t.ct (by omega) (by omega) (by omega) (by omega) (by omega) (fun q q0 q1 => by have := g3 q q0 q1; omega)
      rw [if_neg (by rw [g1]; exact zne_i (by omega)), g1, zcl_p d1, if_neg (znlt_i (by omega)), zrd_p ⟨by omega, by omega⟩, zcl_p (bring_spec (Or.inl (by omega)) (by omega) (by omega) (by omega) (by omega) (by omega) (by omega))]
      unfold FX0_forget
      rw [zpf_p, zcl_p rfl, zrd_p ⟨by omega, by omega⟩, zuc_ne _ _ (show (4 : Nat) ≠ 1 by omega), zpf_p, zpf_p]
      refine ⟨mM 4 a1, zup mC1 21 3 0, _, by rw [zup_o _ _ _ (by omega), d3, show mM 4 a1 - 0 = mM 4 a1 by omega], by rw [zup_c, zuf_d _ _ (by omega), zup_c, zuf_e], zRel_ta h ⟨zCI_cg d2 (fun k hk => zup_o _ _ _ (by omega)), ?_, fun i i0 i1 => ?_⟩ ⟨?_, ?_, ?_⟩ (fun c hc => ?_) (fun c c1 c2 => ?_) ?_⟩
      · rw [zup_c, zuf_d _ _ (by omega), zup_c, zuf_e, zup_o _ _ _ (by omega), d3]; omega
      · rw [zup_o _ _ _ (by omega), d3] at i1
        rw [zup_o _ _ _ (by omega), zup_o _ _ _ (by omega), zup_o _ _ _ (by omega), zuc_at, zcp_in _ _ (by omega), show 48 * a1 + (i - 0) = 48 * a1 + i by omega]
        have q1 : mC1 2 i = mC (29 + 2 * a1.toNat + 1) (0 + i) := d4 i i0 i1
        rw [q1, show 0 + i = i by omega]
        exact (g3 i i0 (by omega)).1
      · rw [zup_c, zuf_e, zup_c, zuf_e]
      · rw [zup_c, zuf_e]; omega
      · rw [zup_c, zuf_e]; exact True.intro
      · rw [zup_o _ _ _ (by omega), d5 c (by omega)]
      · rw [zup_o _ _ _ (by omega), zup_o _ _ _ (by omega), zuc_ne _ _ (by omega)]
      · rw [zup_c, zuf_d _ _ (by omega), zup_c, zuf_d _ _ (by omega), zuc_ne _ _ (by omega)]
  · rw [if_pos (zyn_0 p2 c), if_pos (zyn_0 p4 c)]
    exact ⟨_, _, _, rfl, rfl, h⟩
/-- a byte more on the tape, in both -/
theorem tape_both (h : zRel mC mM) {a : Int} (ha : 0 ≤ a ∧ a ≤ 255) (hn : mM 0 6 < 48) : ∃ mC' mM', FX3_append 33 a mC = some mC' ∧ mM' = zup (zup mM 5 (mM 0 6) a) 0 6 (mM 0 6 + 1) ∧ zRel mC' mM' ∧ mC' 33 1 = mM 0 6 + 1 ∧ mM' 0 6 = mM 0 6 + 1 ∧ (∀ c : Nat, 35 ≤ c → mC' c = mC c) ∧ mM' 8 = mM 8 := by
  obtain ⟨g1, g2, g3⟩ := h.tp
  unfold FX3_append
  rw [zwr_p ⟨by omega, by omega⟩, zpf_p, zup_o _ _ _ (show (33 : Nat) ≠ 33 + 1 by omega)]
  refine ⟨_, _, rfl, rfl, ?_, by rw [zup_c, zuf_e, g1], by rw [zup_c, zuf_e], fun c hc => by rw [zup_o _ _ _ (by omega), zup_o _ _ _ (by omega)], by rw [zup_o _ _ _ (by omega), zup_o _ _ _ (by omega)]⟩
  refine zRel_o h (zIg_cg h.ig (fun c c1 c2 => by rw [zup_o _ _ _ (by omega), zup_o _ _ _ (by omega)]) (by rw [zup_o _ _ _ (by omega), zup_o _ _ _ (by omega)]) (by rw [zup_o _ _ _ (by omega), zup_o _ _ _ (by omega)])) ⟨?_, ?_, fun i i0 i1 => ?_⟩ (zSs_cg h.ss (fun c c1 c2 => by rw [zup_o _ _ _ (by omega), zup_o _ _ _ (by omega)]) (by rw [zup_o _ _ _ (by omega), zup_o _ _ _ (by omega)]) (by rw [zup_o _ _ _ (by omega), zup_o _ _ _ (by omega)]) (by rw [zup_o _ _ _ (by omega), zup_o _ _ _ (by omega)])) (fun c c1 => by rw [zup_o _ _ _ (by omega), zup_o _ _ _ (by omega)]) (by rw [zup_o _ _ _ (by omega), zup_o _ _ _ (by omega)]) (by rw [zup_o _ _ _ (by omega), zup_o _ _ _ (by omega)]) (fun i hi => by rw [zup_c, zuf_d _ _ hi, zup_o _ _ _ (by omega)])
  · rw [zup_c, zuf_e, zup_c, zuf_e, g1]
  · rw [zup_c, zuf_e]; omega
  · rw [zup_c, zuf_e] at i1
    rw [zup_o _ _ _ (by omega), show (34 : Nat) = 33 + 1 from rfl, zup_c, zup_o _ _ _ (by omega), zup_c, g1]
    by_cases e : i = mM 0 6
    · subst e; rw [zuf_e, zuf_e]; exact ⟨rfl, ha⟩
    · rw [zuf_d _ _ e, zuf_d _ _ e]; exact g3 i i0 (by omega)
theorem S_feed (h : zRel mC mM) : zS_feed zRel mC mM := by
  intro a1 ha
  obtain ⟨g1, g2, g3⟩ := h.tp
  obtain ⟨r1, p1, p2⟩ := byte5 (a := a1) ⟨by omega, by omega⟩
  obtain ⟨r2, p3, p4⟩ := w6 (a := a1) (lo := 0) (hi := 255) ⟨ha, by omega, by omega⟩
  unfold FX5_feed FX6_feed
  rw [zgd_p ha, zgd_p ha, zcl_p p1, zcl_p p3]
  by_cases c : 0 ≤ a1 ∧ a1 ≤ 255
  · rw [if_neg (zyn_1 p2 c), if_neg (zyn_1 p4 c)]
    by_cases c2 : mM 0 6 = 48
    · rw [if_pos (by rw [g1, c2]), if_pos (by rw [c2])]
      exact ⟨_, _, _, rfl, rfl, h⟩
    · rw [if_neg (by rw [g1]; exact zne_i (by omega)), if_neg (zne_i (by omega))]
      obtain ⟨mC', mM', d1, d2, d3, d4, d5, d6⟩ := tape_both h c (by omega)
      rw [zcl_p d1, zwr_p ⟨by omega, by omega⟩, zpf_p, zup_o _ _ _ (show (0 : Nat) ≠ 5 by omega), ← d2]
      exact ⟨_, _, _, by rw [d4], by rw [d5], d3⟩
  · rw [if_pos (zyn_0 p2 c), if_pos (zyn_0 p4 c)]
    exact ⟨_, _, _, rfl, rfl, h⟩
theorem S_clear (h : zRel mC mM) : zS_clear zRel mC mM := by
  obtain ⟨g1, g2, g3⟩ := h.tp
  unfold zS_clear FX5_clear FX6_clear
  rw [zpf_p, zpf_p]
  refine ⟨mM 0 6, zup mC 33 1 0, zup mM 0 6 0, by rw [g1], rfl, zRel_o h (zIg_cg h.ig (fun c c1 c2 => zup_o _ _ _ (by omega)) (zup_o _ _ _ (by omega)) (zup_o _ _ _ (by omega))) ⟨?_, ?_, fun i i0 i1 => ?_⟩ (zSs_cg h.ss (fun c c1 c2 => zup_o _ _ _ (by omega)) (zup_o _ _ _ (by omega)) (zup_o _ _ _ (by omega)) (zup_o _ _ _ (by omega))) (fun c c1 => zup_o _ _ _ (by omega)) (zup_o _ _ _ (by omega)) (zup_o _ _ _ (by omega)) (fun i hi => by rw [zup_c, zuf_d _ _ hi])⟩
  · rw [zup_c, zuf_e, zup_c, zuf_e]
  · rw [zup_c, zuf_e]; omega
  · rw [zup_c, zuf_e] at i1; omega
end PV
