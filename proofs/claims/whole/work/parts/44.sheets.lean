/-! sheets -/
theorem zch_and (v : Int) : zch (zw v) = v % 65536 ∧ zand v 65535 = v % 65536 := by
  constructor
  · unfold zch zw
    rw [zI_self]
    show ((BitVec.ofInt 32 v) % 65536#32).toInt = v % 65536
    have h : ((BitVec.ofInt 32 v) % 65536#32).toNat = (v % 65536).toNat := by
      rw [BitVec.toNat_umod, BitVec.toNat_ofInt]
      simp
      omega
    rw [BitVec.toInt_eq_toNat_of_lt (by rw [h]; omega), h]
    omega
  · unfold zand
    show ((BitVec.ofInt 64 v) &&& (BitVec.ofInt 64 65535)).toInt = v % 65536
    have h : ((BitVec.ofInt 64 v) &&& (BitVec.ofInt 64 65535)).toNat = (v % 65536).toNat := by
      rw [BitVec.toNat_and, BitVec.toNat_ofInt, show (BitVec.ofInt 64 65535).toNat = 2 ^ 16 - 1 by decide, Nat.and_two_pow_sub_one_eq_mod]
      simp
      omega
    rw [BitVec.toInt_eq_toNat_of_lt (by rw [h]; omega), h]
    omega
theorem zw_R (v : Int) : zR (zw v) := ⟨Int32.le_toInt _, Int32.toInt_lt _⟩
theorem zsh_R (v : Int) : zR (zsh v) := ⟨Int32.le_toInt _, Int32.toInt_lt _⟩
theorem zw_id {v : Int} (h : zR v) : zw v = v := zI_toInt h
theorem narrow_both {o : Nat} {m : zM} {l v : Int} (hl : m o 1 = l) (hr : 0 ≤ l ∧ l ≤ 3) (hv : zRl v) : ∃ r, FX4_narrowed o v m = some r ∧ FX6_cut l v = some r ∧ zRl r := by
  obtain ⟨z1, z2⟩ := zch_and v
  have w1 := zw_R v
  have w2 := zsh_R (zw v)
  have n0 : l ≠ 0 → ¬ zI l = zI 0 := fun c => zne_i (by omega)
  have n1 : l ≠ 1 → ¬ zI l = zI 1 := fun c => zne_i (by omega)
  have n2 : l ≠ 2 → ¬ zI l = zI 2 := fun c => zne_i (by omega)
  by_cases c0 : l = 0
  · refine ⟨v % 65536, ?_, ?_, by omega⟩
    · unfold FX4_narrowed; rw [hl, c0, if_pos rfl, z1, zgd_p (by omega)]
    · unfold FX6_cut; rw [c0, if_pos rfl, z2]
  · by_cases c1 : l = 1
    · refine ⟨zsh (zw v), ?_, ?_, by omega⟩
      · unfold FX4_narrowed; rw [hl, if_neg (n0 c0), c1, if_pos rfl, zgd_p w2]
      · unfold FX6_cut; rw [if_neg (n0 c0), c1, if_pos rfl, zgd_p w2]
    · by_cases c2 : l = 2
      · refine ⟨zw v, ?_, ?_, by omega⟩
        · unfold FX4_narrowed; rw [hl, if_neg (n0 c0), if_neg (n1 c1), c2, if_pos rfl, zgd_p w1]
        · unfold FX6_cut; rw [if_neg (n0 c0), if_neg (n1 c1), c2, if_pos rfl, zgd_p w1]
      · refine ⟨v, ?_, ?_, hv⟩
        · unfold FX4_narrowed; rw [hl, if_neg (n0 c0), if_neg (n1 c1), if_neg (n2 c2)]
        · unfold FX6_cut; rw [if_neg (n0 c0), if_neg (n1 c1), if_neg (n2 c2)]
section SH
variable {mC mM : zM}
theorem why_both (h : zSs mC mM) {s l i n : Int} (hs : 0 ≤ s ∧ s < 4) (hl : zR l) (hi : zR i) (hn : zR n) : ∃ r, FX4_refusal (36 + 2 * s.toNat) l i n mC = some r ∧ FX6_whyNot s l i n mM = some r ∧ ((r = -11 ∧ mM 6 s = -1) ∨ (0 ≤ mM 6 s ∧ r = -12 ∧ mM 6 s ≠ l) ∨ (0 ≤ mM 6 s ∧ mM 6 s = l ∧ ((r = 0 ∧ 0 ≤ i ∧ 0 ≤ n ∧ i + n ≤ mM 7 s) ∨ (r = -13 ∧ ¬ (0 ≤ i ∧ 0 ≤ n ∧ i + n ≤ mM 7 s))))) := by
  have hz : (0 : Int) ≤ s ∧ s < 4 := hs
  rcases h s hs.1 hs.2 with ⟨g1, g2⟩ | ⟨g1, g2, g3, g4, g5⟩
  · refine ⟨-11, ?_, ?_, Or.inl ⟨rfl, g2⟩⟩
    · unfold FX4_refusal; rw [if_pos (by rw [g1])]
    · unfold FX6_whyNot; rw [zrd_p hz, if_pos (by rw [g2]; exact zlt_i (by omega))]
  · have e1 : ¬ zI (mC (36 + 2 * s.toNat) 2) = zI (-1) := by rw [g3]; exact zne_i (by omega)
    have e2 : ¬ zI (mM 6 s) < zI 0 := znlt_i (by omega)
    by_cases c : mM 6 s = l
    · have e3 : zI (mM 6 s) = zI l := by rw [c]
      by_cases c1 : i < 0
      · refine ⟨-13, ?_, ?_, Or.inr (Or.inr ⟨by omega, c, Or.inr ⟨rfl, by omega⟩⟩)⟩
        · unfold FX4_refusal; rw [if_neg e1, g1, if_pos e3, if_pos (zlt_i (by omega))]
        · unfold FX6_whyNot; rw [zrd_p hz, if_neg e2, zrd_p hz, if_pos e3, if_pos (zlt_i (by omega))]
      · by_cases c2 : n < 0
        · refine ⟨-13, ?_, ?_, Or.inr (Or.inr ⟨by omega, c, Or.inr ⟨rfl, by omega⟩⟩)⟩
          · unfold FX4_refusal; rw [if_neg e1, g1, if_pos e3, if_neg (znlt_i (by omega)), if_pos (zlt_i (by omega))]
          · unfold FX6_whyNot; rw [zrd_p hz, if_neg e2, zrd_p hz, if_pos e3, if_neg (znlt_i (by omega)), if_pos (zlt_i (by omega))]
        · by_cases c3 : i + n ≤ mM 7 s
          · refine ⟨0, ?_, ?_, Or.inr (Or.inr ⟨by omega, c, Or.inl ⟨rfl, by omega⟩⟩)⟩
            · unfold FX4_refusal; rw [if_neg e1, g1, if_pos e3, if_neg (znlt_i (by omega)), if_neg (znlt_i (by omega)), g3, if_neg (znlt_i (by omega))]
            · unfold FX6_whyNot; rw [zrd_p hz, if_neg e2, zrd_p hz, if_pos e3, if_neg (znlt_i (by omega)), if_neg (znlt_i (by omega)), zgd_p hi, zgd_p hn, zrd_p hz, zgd_p (by omega), if_neg (znlt_j (by omega))]
          · refine ⟨-13, ?_, ?_, Or.inr (Or.inr ⟨by omega, c, Or.inr ⟨rfl, by omega⟩⟩)⟩
            · unfold FX4_refusal; rw [if_neg e1, g1, if_pos e3, if_neg (znlt_i (by omega)), if_neg (znlt_i (by omega)), g3, if_pos (zlt_i (by omega))]
            · unfold FX6_whyNot; rw [zrd_p hz, if_neg e2, zrd_p hz, if_pos e3, if_neg (znlt_i (by omega)), if_neg (znlt_i (by omega)), zgd_p hi, zgd_p hn, zrd_p hz, zgd_p (by omega), if_pos (zlt_j (by omega))]
    · have e3 : ¬ zI (mM 6 s) = zI l := zne_i (by omega)
      refine ⟨-12, ?_, ?_, Or.inr (Or.inl ⟨by omega, rfl, c⟩)⟩
      · unfold FX4_refusal; rw [if_neg e1, g1, if_neg e3]
      · unfold FX6_whyNot; rw [zrd_p hz, if_neg e2, zrd_p hz, if_neg e3]
/-- only sheets change -/
theorem zRel_ss {mC' mM' : zM} (h : zRel mC mM) (ss : zSs mC' mM') (ec : ∀ c : Nat, c ≤ 35 → mC' c = mC c) (em : ∀ c : Nat, c ≤ 5 → mM' c = mM c) : zRel mC' mM' :=
  zRel_o h (zIg_cg h.ig (fun c c1 c2 => ec c (by omega)) (em 3 (by omega)) (em 4 (by omega))) (zTp_cg h.tp (fun c c1 c2 => ec c (by omega)) (em 5 (by omega)) (by rw [em 0 (by omega)])) ss (fun c c1 => ec c (by omega)) (em 1 (by omega)) (em 2 (by omega)) (fun i _ => by rw [em 0 (by omega)])
theorem S_sheet (h : zRel mC mM) : zS_sheet zRel mC mM := by
  intro a1 h1 a2 h2 a3 h3
  obtain ⟨r1, p1, p2⟩ := she5 h1
  obtain ⟨r2, p3, p4⟩ := she6 h1
  obtain ⟨r3, p5, p6⟩ := lan5 h2
  obtain ⟨r4, p7, p8⟩ := w6 (a := a2) (lo := 0) (hi := 3) ⟨h2, by omega, by omega⟩
  unfold FX5_sheet FX6_sheet
  rw [zcl_p p1, zcl_p p3]
  by_cases c : 0 ≤ a1 ∧ a1 ≤ 3
  · rw [if_neg (zyn_1 p2 c), if_neg (zyn_1 p4 c), zcl_p p5, zgd_p h2, zcl_p p7]
    by_cases c2 : 0 ≤ a2 ∧ a2 ≤ 3
    · rw [if_neg (zyn_1 p6 c2), if_neg (zyn_1 p8 c2)]
      by_cases c3 : 48 < a3
      · rw [if_pos (zlt_i (by omega)), if_pos (zlt_i (by omega))]
        exact ⟨_, _, _, rfl, rfl, h⟩
      · have n3 : ¬ zI 48 < zI a3 := znlt_i (by omega)
        rw [if_neg n3, if_neg n3]
        by_cases c4 : a3 < 0
        · rw [if_pos (zlt_i (by omega)), if_pos (zlt_i (by omega))]
          exact ⟨_, _, _, rfl, rfl, h⟩
        · rw [if_neg (znlt_i (by omega)), if_neg (znlt_i (by omega)), zix_p ⟨by omega, by omega⟩, zwr_p ⟨by omega, by omega⟩, zwr_p ⟨by omega, by omega⟩]
          unfold FX4_begin
          rw [zcl_p (fillL_eq _ 48 0 mC (by omega)), zpf_p, zpf_p, zcl_p rfl]
          obtain ⟨m1, hm1⟩ : ∃ q, q = zup (zup mM 6 a1 a2) 7 a1 a3 := ⟨_, rfl⟩
          rw [← hm1]
          have hl : FX6_sheet_L51 a1 a2 a3 (fun y51_4 m51_ => some (a3, m51_)) zfu 0 m1 = some (a3, zuc m1 8 (fun j => if 48 * a1 ≤ j ∧ j < 48 * a1 + 48 then 0 else m1 8 j)) := by
            refine zlom (FX6_sheet_L51 a1 a2 a3 (fun y51_4 m51_ => some (a3, m51_))) (fun r v m' => v + r = 48 ∧ 0 ≤ v ∧ m' = zuc m1 8 (fun j => if 48 * a1 ≤ j ∧ j < 48 * a1 + v then 0 else m1 8 j)) (fun x => x = some (a3, zuc m1 8 (fun j => if 48 * a1 ≤ j ∧ j < 48 * a1 + 48 then 0 else m1 8 j))) ?_ ?_ 48 zfu 0 m1 ⟨by omega, by omega, ?_⟩ (by show _ < 4000; omega)
            · intro f r v m' ⟨i1, i2, i3⟩
              refine Or.inr ⟨v + 1, zup m' 8 (48 * a1 + v) 0, ?_, by omega, by omega, ?_⟩
              · rw [FX6_sheet_L51_s]
                unfold FX6_sheet_L51_B
                rw [if_pos (zlt_i (by omega)), zwr_p ⟨by omega, by omega⟩]
              · rw [i3, zup, zuc_zuc, zuc_at]
                congr 1
                funext j
                unfold zuf
                dsimp only
                by_cases e : j = 48 * a1 + v
                · rw [if_pos e, if_pos (by omega)]
                · rw [if_neg e]
                  by_cases e2 : 48 * a1 ≤ j ∧ j < 48 * a1 + v
                  · rw [if_pos e2, if_pos (by omega)]
                  · rw [if_neg e2, if_neg (by omega)]
            · intro f v m' ⟨i1, i2, i3⟩
              rw [FX6_sheet_L51_s]
              unfold FX6_sheet_L51_B
              rw [if_neg (znlt_i (by omega)), i3, show v = 48 by omega]
            · have e : (fun j => if 48 * a1 ≤ j ∧ j < 48 * a1 + 0 then 0 else m1 8 j) = m1 8 := by
                funext j; rw [if_neg (by omega)]
              rw [e, zuc_same]
          rw [hl]
          refine ⟨_, _, _, rfl, rfl, zRel_ss h (fun s s0 s1 => ?_) (fun c hc => ?_) (fun c hc => ?_)⟩
          · by_cases e : s = a1
            · subst e
              rw [zup_c, zuf_d _ _ (show (1 : Int) ≠ 2 by omega), zuf_e, zup_c, zuf_e, zuc_ne _ _ (show (6 : Nat) ≠ 8 by omega), zuc_ne _ _ (show (7 : Nat) ≠ 8 by omega), zuc_at, hm1, zup_o _ _ _ (show (6 : Nat) ≠ 7 by omega), zup_c, zuf_e, zup_c, zuf_e]
              refine Or.inr ⟨rfl, c2, rfl, by omega, fun i i0 i1 => ?_⟩
              rw [zup_o _ _ _ (by omega), zup_o _ _ _ (by omega), zuc_at, if_pos (by omega), if_pos (by omega)]
              exact ⟨rfl, by omega, by omega⟩
            · have q := h.ss s s0 s1
              have f1 : ∀ (f : Int → Int), zup (zup (zuc mC (36 + 2 * a1.toNat + 1) f) (36 + 2 * a1.toNat) 1 a2) (36 + 2 * a1.toNat) 2 a3 (36 + 2 * s.toNat) = mC (36 + 2 * s.toNat) := fun f => by rw [zup_o _ _ _ (by omega), zup_o _ _ _ (by omega), zuc_ne _ _ (by omega)]
              have f2 : ∀ (f : Int → Int), zup (zup (zuc mC (36 + 2 * a1.toNat + 1) f) (36 + 2 * a1.toNat) 1 a2) (36 + 2 * a1.toNat) 2 a3 (36 + 2 * s.toNat + 1) = mC (36 + 2 * s.toNat + 1) := fun f => by rw [zup_o _ _ _ (by omega), zup_o _ _ _ (by omega), zuc_ne _ _ (by omega)]
              rw [f1, f2, zuc_ne _ _ (show (6 : Nat) ≠ 8 by omega), zuc_ne _ _ (show (7 : Nat) ≠ 8 by omega), zuc_at]
              have f6 : m1 6 s = mM 6 s := by rw [hm1, zup_o _ _ _ (by omega), zup_c, zuf_d _ _ e]
              have f7 : m1 7 s = mM 7 s := by rw [hm1, zup_c, zuf_d _ _ e, zup_o _ _ _ (by omega)]
              have f8 : m1 8 = mM 8 := by rw [hm1, zup_o _ _ _ (by omega), zup_o _ _ _ (by omega)]
              rw [f6, f7, f8]
              rcases q with q | ⟨q1, q2, q3, q4, q5⟩
              · exact Or.inl q
              · refine Or.inr ⟨q1, q2, q3, q4, fun i i0 i1 => ?_⟩
                rw [if_neg (by omega)]
                exact q5 i i0 i1
          · rw [zup_o _ _ _ (by omega), zup_o _ _ _ (by omega), zuc_ne _ _ (by omega)]
          · rw [zuc_ne _ _ (by omega), hm1, zup_o _ _ _ (by omega), zup_o _ _ _ (by omega)]
    · rw [if_pos (zyn_0 p6 c2), if_pos (zyn_0 p8 c2)]
      exact ⟨_, _, _, rfl, rfl, h⟩
  · rw [if_pos (zyn_0 p2 c), if_pos (zyn_0 p4 c)]
    exact ⟨_, _, _, rfl, rfl, h⟩
theorem S_drop (h : zRel mC mM) : zS_drop zRel mC mM := by
  intro a1 h1
  obtain ⟨r1, p1, p2⟩ := she5 h1
  obtain ⟨r2, p3, p4⟩ := she6 h1
  unfold FX5_drop FX6_drop
  rw [zcl_p p1, zcl_p p3]
  by_cases c : 0 ≤ a1 ∧ a1 ≤ 3
  · rw [if_neg (zyn_1 p2 c), if_neg (zyn_1 p4 c), zix_p ⟨by omega, by omega⟩, zrd_p ⟨by omega, by omega⟩]
    rcases h.ss a1 c.1 (by omega) with ⟨g1, g2⟩ | ⟨g1, g2, g3, g4, g5⟩
    · rw [if_pos (by rw [g1]), if_pos (by rw [g2]; exact zlt_i (by omega))]
      exact ⟨_, _, _, rfl, rfl, h⟩
    · rw [if_neg (by rw [g3]; exact zne_i (by omega)), if_neg (znlt_i (by omega)), zix_p ⟨by omega, by omega⟩, zpf_p, zwr_p ⟨by omega, by omega⟩, zrd_p ⟨by omega, by omega⟩, zup_o _ _ _ (show (7 : Nat) ≠ 6 by omega), g3]
      refine ⟨_, _, _, rfl, rfl, zRel_ss h (fun s s0 s1 => ?_) (fun c hc => zup_o _ _ _ (by omega)) (fun c hc => zup_o _ _ _ (by omega))⟩
      by_cases e : s = a1
      · subst e
        rw [zup_c, zuf_e, zup_c, zuf_e]
        exact Or.inl ⟨rfl, rfl⟩
      · rw [zup_o _ _ _ (show 36 + 2 * s.toNat ≠ 36 + 2 * a1.toNat by omega), zup_o _ _ _ (show 36 + 2 * s.toNat + 1 ≠ 36 + 2 * a1.toNat by omega), zup_c, zuf_d _ _ e, zup_o _ _ _ (show (7 : Nat) ≠ 6 by omega), zup_o _ _ _ (show (8 : Nat) ≠ 6 by omega)]
        exact h.ss s s0 s1
  · rw [if_pos (zyn_0 p2 c), if_pos (zyn_0 p4 c)]
    exact ⟨_, _, _, rfl, rfl, h⟩
/-- one item more, in both -/
theorem item_both (h : zSs mC mM) {s i v : Int} (hs : 0 ≤ s ∧ s < 4) (hi : 0 ≤ i ∧ i < 48) (hv : zRl v) : zSs (zup mC (36 + 2 * s.toNat + 1) i v) (zup mM 8 (48 * s + i) v) := by
  intro t t0 t1
  rw [zup_o _ _ _ (show 36 + 2 * t.toNat ≠ 36 + 2 * s.toNat + 1 by omega), zup_o _ _ _ (show (6 : Nat) ≠ 8 by omega), zup_o _ _ _ (show (7 : Nat) ≠ 8 by omega), zup_c]
  rcases h t t0 t1 with q | ⟨q1, q2, q3, q4, q5⟩
  · exact Or.inl q
  · refine Or.inr ⟨q1, q2, q3, q4, fun j j0 j1 => ?_⟩
    by_cases e : t = s
    · subst e
      rw [zup_c]
      by_cases e2 : j = i
      · subst e2
        rw [zuf_e, zuf_e]
        exact ⟨rfl, hv⟩
      · rw [zuf_d _ _ e2, zuf_d _ _ (by omega)]
        exact q5 j j0 j1
    · rw [zup_o _ _ _ (by omega), zuf_d _ _ (by omega)]
      exact q5 j j0 j1
theorem S_item (h : zRel mC mM) : zS_item zRel mC mM := by
  intro a1 h1 a2 h2 a3 h3 a4 h4
  obtain ⟨r1, p1, p2⟩ := she5 h1
  obtain ⟨r2, p3, p4⟩ := she6 h1
  obtain ⟨r3, p5, p6⟩ := lan5 h2
  obtain ⟨r4, p7, p8⟩ := w6 (a := a2) (lo := 0) (hi := 3) ⟨h2, by omega, by omega⟩
  unfold FX5_item FX6_item
  rw [zcl_p p1, zcl_p p3]
  by_cases c : 0 ≤ a1 ∧ a1 ≤ 3
  · rw [if_neg (zyn_1 p2 c), if_neg (zyn_1 p4 c), zcl_p p5, zgd_p h2, zcl_p p7]
    by_cases c2 : 0 ≤ a2 ∧ a2 ≤ 3
    · obtain ⟨r, q1, q2, q3⟩ := why_both h.ss (s := a1) (l := a2) (i := a3) (n := 1) (by omega) h2 h3 (by omega)
      rw [if_neg (zyn_1 p6 c2), if_neg (zyn_1 p8 c2), zix_p ⟨by omega, by omega⟩, zcl_p q1, zcl_p q2]
      by_cases c3 : r = 0
      · rcases q3 with q3 | q3 | ⟨g1, g2, g3⟩
        · omega
        · omega
        · rcases h.ss a1 c.1 (by omega) with f | ⟨f1, f2, f3, f4, f5⟩
          · omega
          · obtain ⟨w, w1, w2, w3⟩ := narrow_both (o := 36 + 2 * a1.toNat) (m := mC) (l := a2) (v := a4) (by omega) c2 h4
            rw [if_pos (by rw [c3]), if_pos (by rw [c3]), zix_p ⟨by omega, by omega⟩, zcl_p w2, zwr_p ⟨by omega, by omega⟩, zrd_p ⟨by omega, by omega⟩, zup_c, zuf_e]
            unfold FX4_store
            rw [zcl_p w1, zwr_p ⟨by omega, by omega⟩, zrd_p ⟨by omega, by omega⟩, zup_c, zuf_e, zcl2_p rfl]
            exact ⟨_, _, _, rfl, rfl, zRel_ss h (item_both h.ss (by omega) (by omega) w3) (fun c hc => zup_o _ _ _ (by omega)) (fun c hc => zup_o _ _ _ (by omega))⟩
      · rw [if_neg (zne_i (by omega)), if_neg (zne_i (by omega)), zgd_p (by omega), zgd_p (by omega)]
        exact ⟨_, _, _, rfl, rfl, h⟩
    · rw [if_pos (zyn_0 p6 c2), if_pos (zyn_0 p8 c2)]
      exact ⟨_, _, _, rfl, rfl, h⟩
  · rw [if_pos (zyn_0 p2 c), if_pos (zyn_0 p4 c)]
    exact ⟨_, _, _, rfl, rfl, h⟩
end SH
