def rmX6_sheet : Room := { frames := 2, cells := 0, slots := 0, locals := 45 }
set_option maxRecDepth 20000 in
set_option maxHeartbeats 4000000 in
theorem wX6_sheet_L51 {X : zXT} {l : Launch} {D : va_G} {ca : Nat → ClassId} {ad : Nat → Nat} (hG : zGok (zGM D ca ad)) {a1 : Int} {a2 : Int} {a3 : Int}  {r0 : Int} {m0 : zM}  (hX : zC X l rmX6_sheet (zGM D ca ad) (some (.int (zI r0))) m0 cX6_sheet 5 RX6 (some .int)) {k : Int → zM → Option (Int × zM)} (hk : ∀ (v4 : Int) (m_ : zM), k v4 m_ = some (r0, m0) → zV X 5 m_ 77 [(0, .ref (ad 0)), (1, .int (zI a1)), (3, .int (zI a3)), (4, .int (zI v4))] []) : ∀ (n : Nat) (v4 : Int) (m_ : zM), FX6_sheet_L51 a1 a2 a3 k n v4 m_ = some (r0, m0) → zV X 5 m_ 51 [(0, .ref (ad 0)), (1, .int (zI a1)), (3, .int (zI a3)), (4, .int (zI v4))] [] := by
  intro n
  induction n with
  | zero => intro v4 m_ h; cases h
  | succ n ih =>
    intro v4 m_ h
    replace h : FX6_sheet_L51_B a1 a2 a3 k (FX6_sheet_L51 a1 a2 a3 k n) v4 m_ = some (r0, m0) := h
    unfold FX6_sheet_L51_B at h
    refine z_iload (pc := 51) hX 3 dX6_sheet_51 rfl ?_
    refine z_bipush (pc := 53) hX dX6_sheet_53 (by decide +kernel) ?_
    refine z_icmp_ge (pc := 55) (tgt := 77) hX dX6_sheet_55 (by decide) (fun hc7 => ?_) (fun hc7 => ?_)
    · replace h := (if_neg hc7).symm.trans h
      exact hk _ _ h
    · replace h := (if_pos hc7).symm.trans h
      refine z_aload_n (pc := 58) hX 0 dX6_sheet_58 rfl rfl ?_
      refine z_get (pc := 59) (c := 0) (j := 10) (v := .ref (ad 8)) hX rfl zfl_RX6_31 (Nat.le_of_ble_eq_true rfl) (zMod_e (ca := ca) (f := m_ 0)) rfl dX6_sheet_59 ?_
      refine z_bipush (pc := 62) hX dX6_sheet_62 (by decide +kernel) ?_
      refine z_iload_n (pc := 64) hX 1 dX6_sheet_64 rfl rfl ?_
      refine z_imul (pc := 65) hX dX6_sheet_65 ?_
      refine z_iload (pc := 66) hX 3 dX6_sheet_66 rfl ?_
      refine z_iadd (pc := 68) hX dX6_sheet_68 ?_
      refine z_lconst (pc := 69) (a := 0) hX dX6_sheet_69 (by decide +kernel) ?_
      obtain ⟨m6, hm6, hi6, h⟩ := zwr_s h
      refine z_last (pc := 70) (c := 8) hX zMi8 hi6 hm6 dX6_sheet_70 ?_
      refine z_iinc (pc := 71) (lv' := [(4, .int (zI (v4 + 1))), (0, .ref (ad 0)), (1, .int (zI a1)), (3, .int (zI a3))]) hX 3 dX6_sheet_71 rfl (by decide) rfl ?_
      refine z_goto (pc := 74) (tgt := 51) hX dX6_sheet_74 (by decide) ?_
      refine z_sub [1, 2, 3, 0] rfl ?_
      exact ih _ _ h
set_option maxRecDepth 20000 in
set_option maxHeartbeats 4000000 in
theorem wX6_sheet {l : Launch} {D : va_G} {ca : Nat → ClassId} {ad : Nat → Nat} (hG : zGok (zGM D ca ad)) {a1 : Int} {a2 : Int} {a3 : Int} {r0 : Int} {m0 : zM} {m : zM} (h : FX6_sheet a1 a2 a3 m = some (r0, m0)) : zCt l (zGM D ca ad) yX6_sheet cX6_sheet 5 (some .int) rmX6_sheet [.ref (ad 0), .int (zI a1), .int (zI a2), .int (zI a3)] m (some (.int (zI r0))) m0 := by
  unfold FX6_sheet at h
  refine z_of (plainFor_of_name (by decide +kernel)) hG (Nat.le_of_ble_eq_true rfl) (fun X hX => ?_)
  show zV X 5 m 0 [(0, .ref (ad 0)), (1, .int (zI a1)), (2, .int (zI a2)), (3, .int (zI a3))] []
  refine z_iload_n (pc := 0) hX 1 dX6_sheet_0 rfl rfl ?_
  obtain ⟨r1, hr1, h⟩ := zcl_s h
  refine z_callSr (pc := 1) hX [.int (zI a1)] [] (wX6_isSheet (ca := ca) hG  hr1) zms_RX6_174 rfl rfl ⟨rfl, rfl⟩ ⟨by decide, by decide⟩ (Nat.le_of_ble_eq_true rfl) dX6_sheet_1 ?_
  refine z_if_eq (pc := 4) (tgt := 25) hX dX6_sheet_4 (by decide) (fun hc11 => ?_) (fun hc11 => ?_)
  · replace h := (if_pos hc11).symm.trans h
    refine z_iconst (pc := 25) hX dX6_sheet_25 ?_
    exact z_iret (pc := 26) hX rfl rfl (Prod.mk.inj (Option.some.inj h)).1 (Prod.mk.inj (Option.some.inj h)).2 dX6_sheet_26
  · replace h := (if_neg hc11).symm.trans h
    refine z_iload_n (pc := 7) hX 2 dX6_sheet_7 rfl rfl ?_
    obtain ⟨g2, h⟩ := zgd_s h
    refine z_i2l (pc := 8) hX g2 dX6_sheet_8 ?_
    refine z_lconst (pc := 9) (a := 0) hX dX6_sheet_9 (by decide +kernel) ?_
    refine z_ldc2 (pc := 10) (n := 3) hX zk_RX6_145 (by decide +kernel) dX6_sheet_10 ?_
    obtain ⟨r3, hr3, h⟩ := zcl_s h
    refine z_callSr (pc := 13) hX [.long (zJ a2), .long (zJ 0), .long (zJ 3)] [] (wX6_within (ca := ca) hG  hr3) zms_RX6_90 rfl rfl ⟨rfl, rfl⟩ ⟨by decide, by decide⟩ (Nat.le_of_ble_eq_true rfl) dX6_sheet_13 ?_
    refine z_if_eq (pc := 16) (tgt := 25) hX dX6_sheet_16 (by decide) (fun hc10 => ?_) (fun hc10 => ?_)
    · replace h := (if_pos hc10).symm.trans h
      refine z_iconst (pc := 25) hX dX6_sheet_25 ?_
      exact z_iret (pc := 26) hX rfl rfl (Prod.mk.inj (Option.some.inj h)).1 (Prod.mk.inj (Option.some.inj h)).2 dX6_sheet_26
    · replace h := (if_neg hc10).symm.trans h
      refine z_iload_n (pc := 19) hX 3 dX6_sheet_19 rfl rfl ?_
      refine z_bipush (pc := 20) hX dX6_sheet_20 (by decide +kernel) ?_
      refine z_icmp_le (pc := 22) (tgt := 27) hX dX6_sheet_22 (by decide) (fun hc9 => ?_) (fun hc9 => ?_)
      · replace h := (if_neg hc9).symm.trans h
        refine z_iload_n (pc := 27) hX 3 dX6_sheet_27 rfl rfl ?_
        refine z_if_ge (pc := 28) (tgt := 34) hX dX6_sheet_28 (by decide) (fun hc8 => ?_) (fun hc8 => ?_)
        · replace h := (if_neg hc8).symm.trans h
          refine z_aload_n (pc := 34) hX 0 dX6_sheet_34 rfl rfl ?_
          refine z_get (pc := 35) (c := 0) (j := 8) (v := .ref (ad 6)) hX rfl zfl_RX6_25 (Nat.le_of_ble_eq_true rfl) (zMod_e (ca := ca) (f := m 0)) rfl dX6_sheet_35 ?_
          refine z_iload_n (pc := 38) hX 1 dX6_sheet_38 rfl rfl ?_
          refine z_iload_n (pc := 39) hX 2 dX6_sheet_39 rfl rfl ?_
          obtain ⟨m4, hm4, hi4, h⟩ := zwr_s h
          refine z_iast (pc := 40) (c := 6) hX zMi6 hi4 hm4 dX6_sheet_40 ?_
          refine z_aload_n (pc := 41) hX 0 dX6_sheet_41 rfl rfl ?_
          refine z_get (pc := 42) (c := 0) (j := 9) (v := .ref (ad 7)) hX rfl zfl_RX6_28 (Nat.le_of_ble_eq_true rfl) (zMod_e (ca := ca) (f := m4 0)) rfl dX6_sheet_42 ?_
          refine z_iload_n (pc := 45) hX 1 dX6_sheet_45 rfl rfl ?_
          refine z_iload_n (pc := 46) hX 3 dX6_sheet_46 rfl rfl ?_
          obtain ⟨m5, hm5, hi5, h⟩ := zwr_s h
          refine z_iast (pc := 47) (c := 7) hX zMi7 hi5 hm5 dX6_sheet_47 ?_
          refine z_iconst (pc := 48) hX dX6_sheet_48 ?_
          refine z_istore (pc := 49) (lv' := [(4, .int (zI 0)), (0, .ref (ad 0)), (1, .int (zI a1)), (2, .int (zI a2)), (3, .int (zI a3))]) hX dX6_sheet_49 (by decide) rfl ?_
          refine z_sub [1, 2, 4, 0] rfl ?_
          refine wX6_sheet_L51 hG  hX (fun y51_4 m51_ h => ?_) _ _ _ h
          refine z_iload_n (pc := 77) hX 2 dX6_sheet_77 rfl rfl ?_
          exact z_iret (pc := 78) hX rfl rfl (Prod.mk.inj (Option.some.inj h)).1 (Prod.mk.inj (Option.some.inj h)).2 dX6_sheet_78
        · replace h := (if_pos hc8).symm.trans h
          refine z_bipush (pc := 31) hX dX6_sheet_31 (by decide +kernel) ?_
          exact z_iret (pc := 33) hX rfl rfl (Prod.mk.inj (Option.some.inj h)).1 (Prod.mk.inj (Option.some.inj h)).2 dX6_sheet_33
      · replace h := (if_pos hc9).symm.trans h
        refine z_iconst (pc := 25) hX dX6_sheet_25 ?_
        exact z_iret (pc := 26) hX rfl rfl (Prod.mk.inj (Option.some.inj h)).1 (Prod.mk.inj (Option.some.inj h)).2 dX6_sheet_26
def rmX6_spell : Room := { frames := 4, cells := 0, slots := 0, locals := 93 }
set_option maxRecDepth 20000 in
set_option maxHeartbeats 4000000 in
theorem wX6_spell_L72 {X : zXT} {l : Launch} {D : va_G} {ca : Nat → ClassId} {ad : Nat → Nat} (hG : zGok (zGM D ca ad)) {a1 : Int} {a2 : Int} {a3 : Int} {a4 : Int}  {r0 : Int} {m0 : zM} {k5 : Int} (hX : zC X l rmX6_spell (zGM D ca ad) (some (.int (zI r0))) m0 cX6_spell 8 RX6 (some .int)) {k : Int → zM → Option (Int × zM)} (hk : ∀ (v7 : Int) (m_ : zM), k v7 m_ = some (r0, m0) → zV X 8 m_ 118 [(0, .ref (ad 0)), (1, .int (zI a1)), (2, .int (zI a2)), (4, .int (zI a4)), (5, .int (zI k5)), (7, .int (zI v7))] []) : ∀ (n : Nat) (v7 : Int) (m_ : zM), FX6_spell_L72 a1 a2 a3 a4 k5 k n v7 m_ = some (r0, m0) → zV X 8 m_ 72 [(0, .ref (ad 0)), (1, .int (zI a1)), (2, .int (zI a2)), (4, .int (zI a4)), (5, .int (zI k5)), (7, .int (zI v7))] [] := by
  intro n
  induction n with
  | zero => intro v7 m_ h; cases h
  | succ n ih =>
    intro v7 m_ h
    replace h : FX6_spell_L72_B a1 a2 a3 a4 k5 k (FX6_spell_L72 a1 a2 a3 a4 k5 k n) v7 m_ = some (r0, m0) := h
    unfold FX6_spell_L72_B at h
    refine z_iload (pc := 72) hX 5 dX6_spell_72 rfl ?_
    refine z_iload (pc := 74) hX 4 dX6_spell_74 rfl ?_
    refine z_icmp_ge (pc := 76) (tgt := 118) hX dX6_spell_76 (by decide) (fun hc14 => ?_) (fun hc14 => ?_)
    · replace h := (if_neg hc14).symm.trans h
      exact hk _ _ h
    · replace h := (if_pos hc14).symm.trans h
      refine z_aload_n (pc := 79) hX 0 dX6_spell_79 rfl rfl ?_
      refine z_get (pc := 80) (c := 0) (j := 10) (v := .ref (ad 8)) hX rfl zfl_RX6_31 (Nat.le_of_ble_eq_true rfl) (zMod_e (ca := ca) (f := m_ 0)) rfl dX6_spell_80 ?_
      refine z_bipush (pc := 83) hX dX6_spell_83 (by decide +kernel) ?_
      refine z_iload_n (pc := 85) hX 2 dX6_spell_85 rfl rfl ?_
      refine z_imul (pc := 86) hX dX6_spell_86 ?_
      refine z_iload (pc := 87) hX 3 dX6_spell_87 rfl ?_
      refine z_iadd (pc := 89) hX dX6_spell_89 ?_
      refine z_iload (pc := 90) hX 5 dX6_spell_90 rfl ?_
      refine z_iadd (pc := 92) hX dX6_spell_92 ?_
      refine z_bipush (pc := 93) hX dX6_spell_93 (by decide +kernel) ?_
      refine z_aload_n (pc := 95) hX 0 dX6_spell_95 rfl rfl ?_
      refine z_get (pc := 96) (c := 0) (j := 1) (v := .ref (ad 1)) hX rfl zfl_RX6_7 (Nat.le_of_ble_eq_true rfl) (zMod_e (ca := ca) (f := m_ 0)) rfl dX6_spell_96 ?_
      refine z_aload_n (pc := 99) hX 0 dX6_spell_99 rfl rfl ?_
      refine z_get (pc := 100) (c := 0) (j := 13) (v := .ref (ad 10)) hX rfl zfl_RX6_38 (Nat.le_of_ble_eq_true rfl) (zMod_e (ca := ca) (f := m_ 0)) rfl dX6_spell_100 ?_
      refine z_iload_n (pc := 103) hX 1 dX6_spell_103 rfl rfl ?_
      obtain ⟨x10, hx10, hi10, h⟩ := zrd_s h
      refine z_iald (pc := 104) (c := 10) hX zMi10 hi10 hx10 dX6_spell_104 ?_
      refine z_iload (pc := 105) hX 5 dX6_spell_105 rfl ?_
      refine z_iadd (pc := 107) hX dX6_spell_107 ?_
      obtain ⟨x11, hx11, hi11, h⟩ := zrd_s h
      refine z_iald (pc := 108) (c := 1) hX zMi1 hi11 hx11 dX6_spell_108 ?_
      refine z_iadd (pc := 109) hX dX6_spell_109 ?_
      obtain ⟨g12, h⟩ := zgd_s h
      refine z_i2l (pc := 110) hX g12 dX6_spell_110 ?_
      obtain ⟨m13, hm13, hi13, h⟩ := zwr_s h
      refine z_last (pc := 111) (c := 8) hX zMi8 hi13 hm13 dX6_spell_111 ?_
      refine z_iinc (pc := 112) (lv' := [(7, .int (zI (v7 + 1))), (0, .ref (ad 0)), (1, .int (zI a1)), (2, .int (zI a2)), (4, .int (zI a4)), (5, .int (zI k5))]) hX 5 dX6_spell_112 rfl (by decide) rfl ?_
      refine z_goto (pc := 115) (tgt := 72) hX dX6_spell_115 (by decide) ?_
      refine z_sub [1, 2, 3, 4, 5, 0] rfl ?_
      exact ih _ _ h
set_option maxRecDepth 20000 in
set_option maxHeartbeats 4000000 in
theorem wX6_spell {l : Launch} {D : va_G} {ca : Nat → ClassId} {ad : Nat → Nat} (hG : zGok (zGM D ca ad)) {a1 : Int} {a2 : Int} {a3 : Int} {a4 : Int} {r0 : Int} {m0 : zM} {m : zM} (h : FX6_spell a1 a2 a3 a4 m = some (r0, m0)) : zCt l (zGM D ca ad) yX6_spell cX6_spell 8 (some .int) rmX6_spell [.ref (ad 0), .int (zI a1), .int (zI a2), .int (zI a3), .int (zI a4)] m (some (.int (zI r0))) m0 := by
  unfold FX6_spell at h
  refine z_of (plainFor_of_name (by decide +kernel)) hG (Nat.le_of_ble_eq_true rfl) (fun X hX => ?_)
  show zV X 8 m 0 [(0, .ref (ad 0)), (1, .int (zI a1)), (2, .int (zI a2)), (3, .int (zI a3)), (4, .int (zI a4))] []
  refine z_aload_n (pc := 0) hX 0 dX6_spell_0 rfl rfl ?_
  obtain ⟨m1, hr1, h⟩ := zcl_s h
  refine z_callVv (pc := 1) (v := .null) (c := 0) hX [] [] (wX6_lay (ca := ca) hG  hr1) rfl zmv_RX6_111 (Nat.le_of_ble_eq_true rfl) (zMod_e (ca := ca) (f := m 0)) rfl rfl ⟨rfl, rfl⟩ ⟨by decide, by decide⟩ (Nat.le_of_ble_eq_true rfl) dX6_spell_1 ?_
  refine z_iload_n (pc := 4) hX 1 dX6_spell_4 rfl rfl ?_
  obtain ⟨g2, h⟩ := zgd_s h
  refine z_i2l (pc := 5) hX g2 dX6_spell_5 ?_
  refine z_lconst (pc := 6) (a := 0) hX dX6_spell_6 (by decide +kernel) ?_
  refine z_aload_n (pc := 7) hX 0 dX6_spell_7 rfl rfl ?_
  refine z_get (pc := 8) (c := 0) (j := 12) (v := .int (zI (m1 0 12))) hX rfl zfl_RX6_65 (Nat.le_of_ble_eq_true rfl) (zMod_e (ca := ca) (f := m1 0)) rfl dX6_spell_8 ?_
  refine z_iconst (pc := 11) hX dX6_spell_11 ?_
  refine z_isub (pc := 12) hX dX6_spell_12 ?_
  obtain ⟨g3, h⟩ := zgd_s h
  refine z_i2l (pc := 13) hX g3 dX6_spell_13 ?_
  obtain ⟨r4, hr4, h⟩ := zcl_s h
  refine z_callSr (pc := 14) hX [.long (zJ a1), .long (zJ 0), .long (zJ ((m1 0 12) - 1))] [] (wX6_within (ca := ca) hG  hr4) zms_RX6_90 rfl rfl ⟨rfl, rfl⟩ ⟨by decide, by decide⟩ (Nat.le_of_ble_eq_true rfl) dX6_spell_14 ?_
  refine z_if_eq (pc := 17) (tgt := 39) hX dX6_spell_17 (by decide) (fun hc18 => ?_) (fun hc18 => ?_)
  · replace h := (if_pos hc18).symm.trans h
    refine z_iconst (pc := 39) hX dX6_spell_39 ?_
    exact z_iret (pc := 40) hX rfl rfl (Prod.mk.inj (Option.some.inj h)).1 (Prod.mk.inj (Option.some.inj h)).2 dX6_spell_40
  · replace h := (if_neg hc18).symm.trans h
    refine z_iload_n (pc := 20) hX 2 dX6_spell_20 rfl rfl ?_
    obtain ⟨r5, hr5, h⟩ := zcl_s h
    refine z_callSr (pc := 21) hX [.int (zI a2)] [] (wX6_isSheet (ca := ca) hG  hr5) zms_RX6_174 rfl rfl ⟨rfl, rfl⟩ ⟨by decide, by decide⟩ (Nat.le_of_ble_eq_true rfl) dX6_spell_21 ?_
    refine z_if_eq (pc := 24) (tgt := 39) hX dX6_spell_24 (by decide) (fun hc17 => ?_) (fun hc17 => ?_)
    · replace h := (if_pos hc17).symm.trans h
      refine z_iconst (pc := 39) hX dX6_spell_39 ?_
      exact z_iret (pc := 40) hX rfl rfl (Prod.mk.inj (Option.some.inj h)).1 (Prod.mk.inj (Option.some.inj h)).2 dX6_spell_40
    · replace h := (if_neg hc17).symm.trans h
      refine z_iload_n (pc := 27) hX 3 dX6_spell_27 rfl rfl ?_
      obtain ⟨g6, h⟩ := zgd_s h
      refine z_i2l (pc := 28) hX g6 dX6_spell_28 ?_
      refine z_lconst (pc := 29) (a := 0) hX dX6_spell_29 (by decide +kernel) ?_
      refine z_ldc2 (pc := 30) (n := 3) hX zk_RX6_145 (by decide +kernel) dX6_spell_30 ?_
      obtain ⟨r7, hr7, h⟩ := zcl_s h
      refine z_callSr (pc := 33) hX [.long (zJ a3), .long (zJ 0), .long (zJ 3)] [] (wX6_within (ca := ca) hG  hr7) zms_RX6_90 rfl rfl ⟨rfl, rfl⟩ ⟨by decide, by decide⟩ (Nat.le_of_ble_eq_true rfl) dX6_spell_33 ?_
      refine z_if_ne (pc := 36) (tgt := 41) hX dX6_spell_36 (by decide) (fun hc16 => ?_) (fun hc16 => ?_)
      · replace h := (if_neg hc16).symm.trans h
        refine z_aload_n (pc := 41) hX 0 dX6_spell_41 rfl rfl ?_
        refine z_get (pc := 42) (c := 0) (j := 14) (v := .ref (ad 11)) hX rfl zfl_RX6_41 (Nat.le_of_ble_eq_true rfl) (zMod_e (ca := ca) (f := m1 0)) rfl dX6_spell_42 ?_
        refine z_iload_n (pc := 45) hX 1 dX6_spell_45 rfl rfl ?_
        obtain ⟨x8, hx8, hi8, h⟩ := zrd_s h
        refine z_iald (pc := 46) (c := 11) hX zMi11 hi8 hx8 dX6_spell_46 ?_
        refine z_istore (pc := 47) (lv' := [(5, .int (zI x8)), (0, .ref (ad 0)), (1, .int (zI a1)), (2, .int (zI a2)), (3, .int (zI a3)), (4, .int (zI a4))]) hX dX6_spell_47 (by decide) rfl ?_
        refine z_aload_n (pc := 49) hX 1 dX6_spell_49 rfl rfl ?_
        refine z_iload_n (pc := 50) hX 3 dX6_spell_50 rfl rfl ?_
        refine z_iload_n (pc := 51) hX 4 dX6_spell_51 rfl rfl ?_
        refine z_iload (pc := 52) hX 5 dX6_spell_52 rfl ?_
        refine z_iload (pc := 54) hX 0 dX6_spell_54 rfl ?_
        obtain ⟨r9, hr9, h⟩ := zcl_s h
        refine z_callVr (pc := 56) (c := 0) hX [.int (zI a2), .int (zI a3), .int (zI a4), .int (zI x8)] [] (wX6_whyNot (ca := ca) hG  hr9) rfl zmv_RX6_181 (Nat.le_of_ble_eq_true rfl) (zMod_e (ca := ca) (f := m1 0)) rfl rfl ⟨rfl, rfl⟩ ⟨by decide, by decide⟩ (Nat.le_of_ble_eq_true rfl) dX6_spell_56 ?_
        refine z_istore (pc := 59) (lv' := [(6, .int (zI r9)), (5, .int (zI x8)), (0, .ref (ad 0)), (1, .int (zI a1)), (2, .int (zI a2)), (3, .int (zI a3)), (4, .int (zI a4))]) hX dX6_spell_59 (by decide) rfl ?_
        refine z_iload (pc := 61) hX 0 dX6_spell_61 rfl ?_
        refine z_if_eq (pc := 63) (tgt := 69) hX dX6_spell_63 (by decide) (fun hc15 => ?_) (fun hc15 => ?_)
        · replace h := (if_pos hc15).symm.trans h
          refine z_iconst (pc := 69) hX dX6_spell_69 ?_
          refine z_istore (pc := 70) (lv' := [(7, .int (zI 0)), (6, .int (zI r9)), (5, .int (zI x8)), (0, .ref (ad 0)), (1, .int (zI a1)), (2, .int (zI a2)), (3, .int (zI a3)), (4, .int (zI a4))]) hX dX6_spell_70 (by decide) rfl ?_
          refine z_sub [3, 4, 5, 7, 2, 0] rfl ?_
          refine wX6_spell_L72 hG  hX (fun y72_7 m72_ h => ?_) _ _ _ h
          refine z_iload (pc := 118) hX 4 dX6_spell_118 rfl ?_
          exact z_iret (pc := 120) hX rfl rfl (Prod.mk.inj (Option.some.inj h)).1 (Prod.mk.inj (Option.some.inj h)).2 dX6_spell_120
        · replace h := (if_neg hc15).symm.trans h
          refine z_iload (pc := 66) hX 0 dX6_spell_66 rfl ?_
          exact z_iret (pc := 68) hX rfl rfl (Prod.mk.inj (Option.some.inj h)).1 (Prod.mk.inj (Option.some.inj h)).2 dX6_spell_68
      · replace h := (if_pos hc16).symm.trans h
        refine z_iconst (pc := 39) hX dX6_spell_39 ?_
        exact z_iret (pc := 40) hX rfl rfl (Prod.mk.inj (Option.some.inj h)).1 (Prod.mk.inj (Option.some.inj h)).2 dX6_spell_40
def rmX6_times : Room := { frames := 1, cells := 0, slots := 0, locals := 23 }
set_option maxRecDepth 20000 in
set_option maxHeartbeats 4000000 in
theorem wX6_times_L4 {X : zXT} {l : Launch} {D : va_G} {ca : Nat → ClassId} {ad : Nat → Nat} (hG : zGok (zGM D ca ad))   {r0 : Int} {m : zM}  (hX : zC X l rmX6_times (zGM D ca ad) (some (.int (zI r0))) m cX6_times 3 RX6 (some .int)) {k : Int → Int → Option (Int)} (hk : ∀ (v1 : Int) (v2 : Int), k v1 v2 = some r0 → zV X 3 m 34 [(0, .ref (ad 0)), (1, .int (zI v1)), (2, .int (zI v2))] []) : ∀ (n : Nat) (v1 : Int) (v2 : Int), FX6_times_L4 m k n v1 v2 = some r0 → zV X 3 m 4 [(0, .ref (ad 0)), (1, .int (zI v1)), (2, .int (zI v2))] [] := by
  intro n
  induction n with
  | zero => intro v1 v2 h; cases h
  | succ n ih =>
    intro v1 v2 h
    replace h : FX6_times_L4_B m k (FX6_times_L4 m k n) v1 v2 = some r0 := h
    unfold FX6_times_L4_B at h
    refine z_iload_n (pc := 4) hX 2 dX6_times_4 rfl rfl ?_
    refine z_aload_n (pc := 5) hX 0 dX6_times_5 rfl rfl ?_
    refine z_get (pc := 6) (c := 0) (j := 0) (v := .int (zI (m 0 0))) hX rfl zfl_RX6_69 (Nat.le_of_ble_eq_true rfl) (zMod_e (ca := ca) (f := m 0)) rfl dX6_times_6 ?_
    refine z_icmp_ge (pc := 9) (tgt := 34) hX dX6_times_9 (by decide) (fun hc3 => ?_) (fun hc3 => ?_)
    · replace h := (if_neg hc3).symm.trans h
      exact hk _ _ h
    · replace h := (if_pos hc3).symm.trans h
      refine z_iload_n (pc := 12) hX 1 dX6_times_12 rfl rfl ?_
      refine z_aload_n (pc := 13) hX 0 dX6_times_13 rfl rfl ?_
      refine z_iload_n (pc := 14) hX 2 dX6_times_14 rfl rfl ?_
      obtain ⟨r1, hr1, h⟩ := zcl_s h
      refine z_callVr (pc := 15) (c := 0) hX [.int (zI v2)] [.int (zI v1)] (wX6_isTaped (ca := ca) hG  hr1) rfl zmv_RX6_171 (Nat.le_of_ble_eq_true rfl) (zMod_e (ca := ca) (f := m 0)) rfl rfl ⟨rfl, rfl⟩ ⟨by decide, by decide⟩ (Nat.le_of_ble_eq_true rfl) dX6_times_15 ?_
      refine z_if_eq (pc := 18) (tgt := 25) hX dX6_times_18 (by decide) (fun hc2 => ?_) (fun hc2 => ?_)
      · replace h := (if_pos hc2).symm.trans h
        refine z_iconst (pc := 25) hX dX6_times_25 ?_
        refine z_iadd (pc := 26) hX dX6_times_26 ?_
        refine z_istore_n (pc := 27) (lv' := [(1, .int (zI (v1 + 0))), (0, .ref (ad 0)), (2, .int (zI v2))]) hX dX6_times_27 rfl (by decide) rfl ?_
        refine z_iinc (pc := 28) (lv' := [(2, .int (zI (v2 + 1))), (1, .int (zI (v1 + 0))), (0, .ref (ad 0))]) hX 2 dX6_times_28 rfl (by decide) rfl ?_
        refine z_goto (pc := 31) (tgt := 4) hX dX6_times_31 (by decide) ?_
        refine z_sub [2, 1, 0] rfl ?_
        exact ih _ _ h
      · replace h := (if_neg hc2).symm.trans h
        refine z_iconst (pc := 21) hX dX6_times_21 ?_
        refine z_goto (pc := 22) (tgt := 26) hX dX6_times_22 (by decide) ?_
        refine z_iadd (pc := 26) hX dX6_times_26 ?_
        refine z_istore_n (pc := 27) (lv' := [(1, .int (zI (v1 + 1))), (0, .ref (ad 0)), (2, .int (zI v2))]) hX dX6_times_27 rfl (by decide) rfl ?_
        refine z_iinc (pc := 28) (lv' := [(2, .int (zI (v2 + 1))), (1, .int (zI (v1 + 1))), (0, .ref (ad 0))]) hX 2 dX6_times_28 rfl (by decide) rfl ?_
        refine z_goto (pc := 31) (tgt := 4) hX dX6_times_31 (by decide) ?_
        refine z_sub [2, 1, 0] rfl ?_
        exact ih _ _ h
set_option maxRecDepth 20000 in
set_option maxHeartbeats 4000000 in
theorem wX6_times {l : Launch} {D : va_G} {ca : Nat → ClassId} {ad : Nat → Nat} (hG : zGok (zGM D ca ad))  {r0 : Int} {m : zM} (h : FX6_times m = some r0) : zCt l (zGM D ca ad) yX6_times cX6_times 3 (some .int) rmX6_times [.ref (ad 0)] m (some (.int (zI r0))) m := by
  unfold FX6_times at h
  refine z_of (plainFor_of_name (by decide +kernel)) hG (Nat.le_of_ble_eq_true rfl) (fun X hX => ?_)
  show zV X 3 m 0 [(0, .ref (ad 0))] []
  refine z_iconst (pc := 0) hX dX6_times_0 ?_
  refine z_istore_n (pc := 1) (lv' := [(1, .int (zI 0)), (0, .ref (ad 0))]) hX dX6_times_1 rfl (by decide) rfl ?_
  refine z_iconst (pc := 2) hX dX6_times_2 ?_
  refine z_istore_n (pc := 3) (lv' := [(2, .int (zI 0)), (1, .int (zI 0)), (0, .ref (ad 0))]) hX dX6_times_3 rfl (by decide) rfl ?_
  refine z_sub [2, 1, 0] rfl ?_
  refine wX6_times_L4 hG  hX (fun y4_1 y4_2 h => ?_) _ _ _ h
  refine z_iload_n (pc := 34) hX 1 dX6_times_34 rfl rfl ?_
  exact z_iret (pc := 35) hX rfl rfl (Option.some.inj h) rfl dX6_times_35
def rmX6_turned : Room := { frames := 1, cells := 0, slots := 0, locals := 25 }
set_option maxRecDepth 20000 in
set_option maxHeartbeats 4000000 in
theorem wX6_turned_L25 {X : zXT} {l : Launch} {D : va_G} {ca : Nat → ClassId} {ad : Nat → Nat} (hG : zGok (zGM D ca ad)) {a1 : Int}  {r0 : Int} {m : zM}  (hX : zC X l rmX6_turned (zGM D ca ad) (some (.int (zI r0))) m cX6_turned 5 RX6 (some .int)) {k : Int → Int → Int → Option (Int)} (hk : ∀ (v2 : Int) (v3 : Int) (v4 : Int), k v2 v3 v4 = some r0 → zV X 5 m 69 [(0, .ref (ad 0)), (1, .int (zI a1)), (2, .int (zI v2)), (3, .int (zI v3)), (4, .int (zI v4))] []) : ∀ (n : Nat) (v2 : Int) (v3 : Int) (v4 : Int), FX6_turned_L25 a1 m k n v2 v3 v4 = some r0 → zV X 5 m 25 [(0, .ref (ad 0)), (1, .int (zI a1)), (2, .int (zI v2)), (3, .int (zI v3)), (4, .int (zI v4))] [] := by
  intro n
  induction n with
  | zero => intro v2 v3 v4 h; cases h
  | succ n ih =>
    intro v2 v3 v4 h
    replace h : FX6_turned_L25_B a1 m k (FX6_turned_L25 a1 m k n) v2 v3 v4 = some r0 := h
    unfold FX6_turned_L25_B at h
    refine z_iload (pc := 25) hX 4 dX6_turned_25 rfl ?_
    refine z_if_lt (pc := 27) (tgt := 69) hX dX6_turned_27 (by decide) (fun hc7 => ?_) (fun hc7 => ?_)
    · replace h := (if_pos hc7).symm.trans h
      exact hk _ _ _ h
    · replace h := (if_neg hc7).symm.trans h
      refine z_iload_n (pc := 30) hX 2 dX6_turned_30 rfl rfl ?_
      refine z_aload_n (pc := 31) hX 0 dX6_turned_31 rfl rfl ?_
      refine z_iload (pc := 32) hX 4 dX6_turned_32 rfl ?_
      obtain ⟨r3, hr3, h⟩ := zcl_s h
      refine z_callVr (pc := 34) (c := 0) hX [.int (zI v4)] [.int (zI v2)] (wX6_isTurned (ca := ca) hG  hr3) rfl zmv_RX6_139 (Nat.le_of_ble_eq_true rfl) (zMod_e (ca := ca) (f := m 0)) rfl rfl ⟨rfl, rfl⟩ ⟨by decide, by decide⟩ (Nat.le_of_ble_eq_true rfl) dX6_turned_34 ?_
      obtain ⟨j45, hj45, h⟩ := zjn_s h (fun (j : Int → Option (Int)) => ∀ (s45_0 : Int), j s45_0 = some r0 → zV X 5 m 45 [(0, .ref (ad 0)), (1, .int (zI a1)), (3, .int (zI v3)), (4, .int (zI v4))] [.int (zI s45_0), .int (zI v2)]) (fun s45_0 h => by
          refine z_iadd (pc := 45) hX dX6_turned_45 ?_
          refine z_istore_n (pc := 46) (lv' := [(2, .int (zI (v2 + s45_0))), (0, .ref (ad 0)), (1, .int (zI a1)), (3, .int (zI v3)), (4, .int (zI v4))]) hX dX6_turned_46 rfl (by decide) rfl ?_
          refine z_aload_n (pc := 47) hX 1 dX6_turned_47 rfl rfl ?_
          refine z_iload (pc := 48) hX 4 dX6_turned_48 rfl ?_
          obtain ⟨r4, hr4, h⟩ := zcl_s h
          refine z_callVr (pc := 50) (c := 0) hX [.int (zI v4)] [] (wX6_isTurned (ca := ca) hG  hr4) rfl zmv_RX6_139 (Nat.le_of_ble_eq_true rfl) (zMod_e (ca := ca) (f := m 0)) rfl rfl ⟨rfl, rfl⟩ ⟨by decide, by decide⟩ (Nat.le_of_ble_eq_true rfl) dX6_turned_50 ?_
          refine z_if_eq (pc := 53) (tgt := 61) hX dX6_turned_53 (by decide) (fun hc5 => ?_) (fun hc5 => ?_)
          · replace h := (if_pos hc5).symm.trans h
            refine z_iload_n (pc := 61) hX 3 dX6_turned_61 rfl rfl ?_
            refine z_istore_n (pc := 62) (lv' := [(3, .int (zI v3)), (2, .int (zI (v2 + s45_0))), (0, .ref (ad 0)), (1, .int (zI a1)), (4, .int (zI v4))]) hX dX6_turned_62 rfl (by decide) rfl ?_
            refine z_iinc (pc := 63) (lv' := [(4, .int (zI (v4 + -1))), (3, .int (zI v3)), (2, .int (zI (v2 + s45_0))), (0, .ref (ad 0)), (1, .int (zI a1))]) hX 4 dX6_turned_63 rfl (by decide) rfl ?_
            refine z_goto (pc := 66) (tgt := 25) hX dX6_turned_66 (by decide) ?_
            refine z_sub [3, 4, 2, 1, 0] rfl ?_
            exact ih _ _ _ h
          · replace h := (if_neg hc5).symm.trans h
            refine z_iload (pc := 56) hX 4 dX6_turned_56 rfl ?_
            refine z_goto (pc := 58) (tgt := 62) hX dX6_turned_58 (by decide) ?_
            refine z_istore_n (pc := 62) (lv' := [(3, .int (zI v4)), (2, .int (zI (v2 + s45_0))), (0, .ref (ad 0)), (1, .int (zI a1)), (4, .int (zI v4))]) hX dX6_turned_62 rfl (by decide) rfl ?_
            refine z_iinc (pc := 63) (lv' := [(4, .int (zI (v4 + -1))), (3, .int (zI v4)), (2, .int (zI (v2 + s45_0))), (0, .ref (ad 0)), (1, .int (zI a1))]) hX 4 dX6_turned_63 rfl (by decide) rfl ?_
            refine z_goto (pc := 66) (tgt := 25) hX dX6_turned_66 (by decide) ?_
            refine z_sub [3, 4, 2, 1, 0] rfl ?_
            exact ih _ _ _ h
          )
      refine z_if_eq (pc := 37) (tgt := 44) hX dX6_turned_37 (by decide) (fun hc6 => ?_) (fun hc6 => ?_)
      · replace h := (if_pos hc6).symm.trans h
        refine z_iconst (pc := 44) hX dX6_turned_44 ?_
        refine z_sub [0, 1, 3, 4] rfl ?_
        exact hj45 _ h
      · replace h := (if_neg hc6).symm.trans h
        refine z_iconst (pc := 40) hX dX6_turned_40 ?_
        refine z_goto (pc := 41) (tgt := 45) hX dX6_turned_41 (by decide) ?_
        refine z_sub [0, 1, 3, 4] rfl ?_
        exact hj45 _ h
set_option maxRecDepth 20000 in
set_option maxHeartbeats 4000000 in
theorem wX6_turned {l : Launch} {D : va_G} {ca : Nat → ClassId} {ad : Nat → Nat} (hG : zGok (zGM D ca ad)) {a1 : Int} {r0 : Int} {m : zM} (h : FX6_turned a1 m = some r0) : zCt l (zGM D ca ad) yX6_turned cX6_turned 5 (some .int) rmX6_turned [.ref (ad 0), .int (zI a1)] m (some (.int (zI r0))) m := by
  unfold FX6_turned at h
  refine z_of (plainFor_of_name (by decide +kernel)) hG (Nat.le_of_ble_eq_true rfl) (fun X hX => ?_)
  show zV X 5 m 0 [(0, .ref (ad 0)), (1, .int (zI a1))] []
  refine z_iload_n (pc := 0) hX 1 dX6_turned_0 rfl rfl ?_
  obtain ⟨g1, h⟩ := zgd_s h
  refine z_i2l (pc := 1) hX g1 dX6_turned_1 ?_
  refine z_lconst (pc := 2) (a := 0) hX dX6_turned_2 (by decide +kernel) ?_
  refine z_lconst (pc := 3) (a := 1) hX dX6_turned_3 (by decide +kernel) ?_
  obtain ⟨r2, hr2, h⟩ := zcl_s h
  refine z_callSr (pc := 4) hX [.long (zJ a1), .long (zJ 0), .long (zJ 1)] [] (wX6_within (ca := ca) hG  hr2) zms_RX6_90 rfl rfl ⟨rfl, rfl⟩ ⟨by decide, by decide⟩ (Nat.le_of_ble_eq_true rfl) dX6_turned_4 ?_
  refine z_if_ne (pc := 7) (tgt := 12) hX dX6_turned_7 (by decide) (fun hc9 => ?_) (fun hc9 => ?_)
  · replace h := (if_neg hc9).symm.trans h
    refine z_iconst (pc := 12) hX dX6_turned_12 ?_
    refine z_istore_n (pc := 13) (lv' := [(2, .int (zI 0)), (0, .ref (ad 0)), (1, .int (zI a1))]) hX dX6_turned_13 rfl (by decide) rfl ?_
    refine z_bipush (pc := 14) hX dX6_turned_14 (by decide +kernel) ?_
    refine z_istore_n (pc := 16) (lv' := [(3, .int (zI (-4))), (2, .int (zI 0)), (0, .ref (ad 0)), (1, .int (zI a1))]) hX dX6_turned_16 rfl (by decide) rfl ?_
    refine z_aload_n (pc := 17) hX 2 dX6_turned_17 rfl rfl ?_
    refine z_get (pc := 18) (c := 0) (j := 0) (v := .int (zI (m 0 0))) hX rfl zfl_RX6_69 (Nat.le_of_ble_eq_true rfl) (zMod_e (ca := ca) (f := m 0)) rfl dX6_turned_18 ?_
    refine z_iconst (pc := 21) hX dX6_turned_21 ?_
    refine z_isub (pc := 22) hX dX6_turned_22 ?_
    refine z_istore (pc := 23) (lv' := [(4, .int (zI ((m 0 0) - 1))), (3, .int (zI (-4))), (2, .int (zI 0)), (0, .ref (ad 0)), (1, .int (zI a1))]) hX dX6_turned_23 (by decide) rfl ?_
    refine z_sub [3, 4, 2, 1, 0] rfl ?_
    refine wX6_turned_L25 hG  hX (fun y25_2 y25_3 y25_4 h => ?_) _ _ _ _ h
    refine z_iload_n (pc := 69) hX 1 dX6_turned_69 rfl rfl ?_
    refine z_if_ne (pc := 70) (tgt := 77) hX dX6_turned_70 (by decide) (fun hc8 => ?_) (fun hc8 => ?_)
    · replace h := (if_neg hc8).symm.trans h
      refine z_iload_n (pc := 77) hX 3 dX6_turned_77 rfl rfl ?_
      exact z_iret (pc := 78) hX rfl rfl (Option.some.inj h) rfl dX6_turned_78
    · replace h := (if_pos hc8).symm.trans h
      refine z_iload_n (pc := 73) hX 2 dX6_turned_73 rfl rfl ?_
      refine z_goto (pc := 74) (tgt := 78) hX dX6_turned_74 (by decide) ?_
      exact z_iret (pc := 78) hX rfl rfl (Option.some.inj h) rfl dX6_turned_78
  · replace h := (if_pos hc9).symm.trans h
    refine z_iconst (pc := 10) hX dX6_turned_10 ?_
    exact z_iret (pc := 11) hX rfl rfl (Option.some.inj h) rfl dX6_turned_11
def rmX6_undo : Room := { frames := 1, cells := 0, slots := 0, locals := 21 }
set_option maxRecDepth 20000 in
set_option maxHeartbeats 4000000 in
theorem wX6_undo {l : Launch} {D : va_G} {ca : Nat → ClassId} {ad : Nat → Nat} (hG : zGok (zGM D ca ad))  {r0 : Int} {m0 : zM} {m : zM} (h : FX6_undo m = some (r0, m0)) : zCt l (zGM D ca ad) yX6_undo cX6_undo 2 (some .int) rmX6_undo [.ref (ad 0)] m (some (.int (zI r0))) m0 := by
  unfold FX6_undo at h
  refine z_of (plainFor_of_name (by decide +kernel)) hG (Nat.le_of_ble_eq_true rfl) (fun X hX => ?_)
  show zV X 2 m 0 [(0, .ref (ad 0))] []
  refine z_aload_n (pc := 0) hX 0 dX6_undo_0 rfl rfl ?_
  refine z_get (pc := 1) (c := 0) (j := 2) (v := .int (zI (m 0 2))) hX rfl zfl_RX6_94 (Nat.le_of_ble_eq_true rfl) (zMod_e (ca := ca) (f := m 0)) rfl dX6_undo_1 ?_
  refine z_if_ne (pc := 4) (tgt := 10) hX dX6_undo_4 (by decide) (fun hc10 => ?_) (fun hc10 => ?_)
  · replace h := (if_neg hc10).symm.trans h
    refine z_aload_n (pc := 10) hX 0 dX6_undo_10 rfl rfl ?_
    refine z_dup (pc := 11) hX dX6_undo_11 rfl ?_
    refine z_get (pc := 12) (c := 0) (j := 2) (v := .int (zI (m 0 2))) hX rfl zfl_RX6_94 (Nat.le_of_ble_eq_true rfl) (zMod_e (ca := ca) (f := m 0)) rfl dX6_undo_12 ?_
    refine z_iconst (pc := 15) hX dX6_undo_15 ?_
    refine z_isub (pc := 16) hX dX6_undo_16 ?_
    obtain ⟨m1, hm1, h⟩ := zpf_s h
    refine z_put (pc := 17) (c := 0) (j := 2) hX rfl zfl_RX6_94 zfi_6_2 (Nat.le_of_ble_eq_true rfl) (zMod_e (ca := ca) (f := m 0)) (Nat.le_of_ble_eq_true rfl) (zMod_p2 (ca := ca)) hm1 dX6_undo_17 ?_
    refine z_aload_n (pc := 20) hX 0 dX6_undo_20 rfl rfl ?_
    refine z_get (pc := 21) (c := 0) (j := 3) (v := .ref (ad 2)) hX rfl zfl_RX6_13 (Nat.le_of_ble_eq_true rfl) (zMod_e (ca := ca) (f := m1 0)) rfl dX6_undo_21 ?_
    refine z_aload_n (pc := 24) hX 0 dX6_undo_24 rfl rfl ?_
    refine z_get (pc := 25) (c := 0) (j := 2) (v := .int (zI (m1 0 2))) hX rfl zfl_RX6_94 (Nat.le_of_ble_eq_true rfl) (zMod_e (ca := ca) (f := m1 0)) rfl dX6_undo_25 ?_
    obtain ⟨x2, hx2, hi2, h⟩ := zrd_s h
    refine z_iald (pc := 28) (c := 2) hX zMi2 hi2 hx2 dX6_undo_28 ?_
    refine z_istore_n (pc := 29) (lv' := [(1, .int (zI x2)), (0, .ref (ad 0))]) hX dX6_undo_29 rfl (by decide) rfl ?_
    refine z_iload_n (pc := 30) hX 0 dX6_undo_30 rfl rfl ?_
    refine z_if_ne (pc := 31) (tgt := 47) hX dX6_undo_31 (by decide) (fun hc9 => ?_) (fun hc9 => ?_)
    · replace h := (if_neg hc9).symm.trans h
      refine z_iload_n (pc := 47) hX 0 dX6_undo_47 rfl rfl ?_
      refine z_bipush (pc := 48) hX dX6_undo_48 (by decide +kernel) ?_
      refine z_icmp_ge (pc := 50) (tgt := 63) hX dX6_undo_50 (by decide) (fun hc7 => ?_) (fun hc7 => ?_)
      · replace h := (if_neg hc7).symm.trans h
        refine z_aload_n (pc := 63) hX 1 dX6_undo_63 rfl rfl ?_
        refine z_get (pc := 64) (c := 0) (j := 1) (v := .ref (ad 1)) hX rfl zfl_RX6_7 (Nat.le_of_ble_eq_true rfl) (zMod_e (ca := ca) (f := m1 0)) rfl dX6_undo_64 ?_
        refine z_iload_n (pc := 67) hX 0 dX6_undo_67 rfl rfl ?_
        refine z_bipush (pc := 68) hX dX6_undo_68 (by decide +kernel) ?_
        refine z_isub (pc := 70) hX dX6_undo_70 ?_
        refine z_bipush (pc := 71) hX dX6_undo_71 (by decide +kernel) ?_
        obtain ⟨g3, h⟩ := zgd_s h
        refine z_idiv (pc := 73) hX g3 dX6_undo_73 ?_
        refine z_iload_n (pc := 74) hX 0 dX6_undo_74 rfl rfl ?_
        refine z_bipush (pc := 75) hX dX6_undo_75 (by decide +kernel) ?_
        obtain ⟨g4, h⟩ := zgd_s h
        refine z_irem (pc := 77) hX g4 dX6_undo_77 ?_
        obtain ⟨m5, hm5, hi5, h⟩ := zwr_s h
        refine z_iast (pc := 78) (c := 1) hX zMi1 hi5 hm5 dX6_undo_78 ?_
        refine z_aload_n (pc := 79) hX 1 dX6_undo_79 rfl rfl ?_
        refine z_get (pc := 80) (c := 0) (j := 2) (v := .int (zI (m5 0 2))) hX rfl zfl_RX6_94 (Nat.le_of_ble_eq_true rfl) (zMod_e (ca := ca) (f := m5 0)) rfl dX6_undo_80 ?_
        exact z_iret (pc := 83) hX rfl rfl (Prod.mk.inj (Option.some.inj h)).1 (Prod.mk.inj (Option.some.inj h)).2 dX6_undo_83
      · replace h := (if_pos hc7).symm.trans h
        refine z_aload_n (pc := 53) hX 1 dX6_undo_53 rfl rfl ?_
        refine z_iload_n (pc := 54) hX 0 dX6_undo_54 rfl rfl ?_
        refine z_iconst (pc := 55) hX dX6_undo_55 ?_
        refine z_isub (pc := 56) hX dX6_undo_56 ?_
        obtain ⟨m6, hr6, h⟩ := zcl_s h
        refine z_callVv (pc := 57) (v := .null) (c := 0) hX [.int (zI (x2 - 1))] [] (wX6_push (ca := ca) hG  hr6) rfl zmv_RX6_108 (Nat.le_of_ble_eq_true rfl) (zMod_e (ca := ca) (f := m1 0)) rfl rfl ⟨rfl, rfl⟩ ⟨by decide, by decide⟩ (Nat.le_of_ble_eq_true rfl) dX6_undo_57 ?_
        refine z_goto (pc := 60) (tgt := 79) hX dX6_undo_60 (by decide) ?_
        refine z_aload_n (pc := 79) hX 1 dX6_undo_79 rfl rfl ?_
        refine z_get (pc := 80) (c := 0) (j := 2) (v := .int (zI (m6 0 2))) hX rfl zfl_RX6_94 (Nat.le_of_ble_eq_true rfl) (zMod_e (ca := ca) (f := m6 0)) rfl dX6_undo_80 ?_
        exact z_iret (pc := 83) hX rfl rfl (Prod.mk.inj (Option.some.inj h)).1 (Prod.mk.inj (Option.some.inj h)).2 dX6_undo_83
    · replace h := (if_pos hc9).symm.trans h
      refine z_aload_n (pc := 34) hX 1 dX6_undo_34 rfl rfl ?_
      refine z_dup (pc := 35) hX dX6_undo_35 rfl ?_
      refine z_get (pc := 36) (c := 0) (j := 0) (v := .int (zI (m1 0 0))) hX rfl zfl_RX6_69 (Nat.le_of_ble_eq_true rfl) (zMod_e (ca := ca) (f := m1 0)) rfl dX6_undo_36 ?_
      refine z_iconst (pc := 39) hX dX6_undo_39 ?_
      refine z_isub (pc := 40) hX dX6_undo_40 ?_
      obtain ⟨m8, hm8, h⟩ := zpf_s h
      refine z_put (pc := 41) (c := 0) (j := 0) hX rfl zfl_RX6_69 zfi_6_0 (Nat.le_of_ble_eq_true rfl) (zMod_e (ca := ca) (f := m1 0)) (Nat.le_of_ble_eq_true rfl) (zMod_p0 (ca := ca)) hm8 dX6_undo_41 ?_
      refine z_goto (pc := 44) (tgt := 79) hX dX6_undo_44 (by decide) ?_
      refine z_aload_n (pc := 79) hX 1 dX6_undo_79 rfl rfl ?_
      refine z_get (pc := 80) (c := 0) (j := 2) (v := .int (zI (m8 0 2))) hX rfl zfl_RX6_94 (Nat.le_of_ble_eq_true rfl) (zMod_e (ca := ca) (f := m8 0)) rfl dX6_undo_80 ?_
      exact z_iret (pc := 83) hX rfl rfl (Prod.mk.inj (Option.some.inj h)).1 (Prod.mk.inj (Option.some.inj h)).2 dX6_undo_83
  · replace h := (if_pos hc10).symm.trans h
    refine z_bipush (pc := 7) hX dX6_undo_7 (by decide +kernel) ?_
    exact z_iret (pc := 9) hX rfl rfl (Prod.mk.inj (Option.some.inj h)).1 (Prod.mk.inj (Option.some.inj h)).2 dX6_undo_9
def rmX6_walks : Room := { frames := 4, cells := 0, slots := 0, locals := 93 }
set_option maxRecDepth 20000 in
set_option maxHeartbeats 4000000 in
theorem wX6_walks_L64 {X : zXT} {l : Launch} {D : va_G} {ca : Nat → ClassId} {ad : Nat → Nat} (hG : zGok (zGM D ca ad)) {a1 : Int} {a2 : Int} {a3 : Int}  {r0 : Int} {m0 : zM} {k4 : Int} (hX : zC X l rmX6_walks (zGM D ca ad) (some (.int (zI r0))) m0 cX6_walks 8 RX6 (some .int)) {k : Int → Int → zM → Option (Int × zM)} (hk : ∀ (v5 : Int) (v7 : Int) (m_ : zM), k v5 v7 m_ = some (r0, m0) → zV X 8 m_ 143 [(0, .ref (ad 0)), (1, .int (zI a1)), (3, .int (zI a3)), (4, .int (zI k4)), (5, .long (zJ v5)), (7, .int (zI v7))] []) : ∀ (n : Nat) (v5 : Int) (v7 : Int) (m_ : zM), FX6_walks_L64 a1 a2 a3 k4 k n v5 v7 m_ = some (r0, m0) → zV X 8 m_ 64 [(0, .ref (ad 0)), (1, .int (zI a1)), (3, .int (zI a3)), (4, .int (zI k4)), (5, .long (zJ v5)), (7, .int (zI v7))] [] := by
  intro n
  induction n with
  | zero => intro v5 v7 m_ h; cases h
  | succ n ih =>
    intro v5 v7 m_ h
    replace h : FX6_walks_L64_B a1 a2 a3 k4 k (FX6_walks_L64 a1 a2 a3 k4 k n) v5 v7 m_ = some (r0, m0) := h
    unfold FX6_walks_L64_B at h
    refine z_iload (pc := 64) hX 5 dX6_walks_64 rfl ?_
    refine z_iload_n (pc := 66) hX 1 dX6_walks_66 rfl rfl ?_
    refine z_icmp_ge (pc := 67) (tgt := 143) hX dX6_walks_67 (by decide) (fun hc18 => ?_) (fun hc18 => ?_)
    · replace h := (if_neg hc18).symm.trans h
      exact hk _ _ _ h
    · replace h := (if_pos hc18).symm.trans h
      refine z_ldc2 (pc := 70) (n := 16807) hX zk_RX6_158 (by decide +kernel) dX6_walks_70 ?_
      refine z_lload (pc := 73) hX 4 dX6_walks_73 rfl ?_
      refine z_lmul (pc := 75) hX dX6_walks_75 ?_
      refine z_ldc2 (pc := 76) (n := 2147483647) hX zk_RX6_160 (by decide +kernel) dX6_walks_76 ?_
      obtain ⟨g9, h⟩ := zgd_s h
      refine z_lrem (pc := 79) hX g9 dX6_walks_79 ?_
      refine z_lstore (pc := 80) (lv' := [(5, .long (zJ ((16807 * v5) % 2147483647))), (0, .ref (ad 0)), (1, .int (zI a1)), (3, .int (zI a3)), (4, .int (zI k4)), (7, .int (zI v7))]) hX dX6_walks_80 (by decide) rfl ?_
      refine z_lload (pc := 82) hX 0 dX6_walks_82 rfl ?_
      refine z_ldc2 (pc := 84) (n := 64) hX zk_RX6_162 (by decide +kernel) dX6_walks_84 ?_
      obtain ⟨g10, h⟩ := zgd_s h
      refine z_ldiv (pc := 87) hX g10 dX6_walks_87 ?_
      refine z_ldc2 (pc := 88) (n := 4) hX zk_RX6_150 (by decide +kernel) dX6_walks_88 ?_
      obtain ⟨g11, h⟩ := zgd_s h
      refine z_lrem (pc := 91) hX g11 dX6_walks_91 ?_
      refine z_lconst (pc := 92) (a := 0) hX dX6_walks_92 (by decide +kernel) ?_
      obtain ⟨j113, hj113, h⟩ := zjn_s h (fun (j : Option (Int × zM)) => j = some (r0, m0) → zV X 8 m_ 113 [(0, .ref (ad 0)), (1, .int (zI a1)), (3, .int (zI a3)), (4, .int (zI k4)), (5, .long (zJ ((16807 * v5) % 2147483647))), (7, .int (zI v7))] []) (fun h => by
          refine z_aload_n (pc := 113) hX 0 dX6_walks_113 rfl rfl ?_
          refine z_dup (pc := 114) hX dX6_walks_114 rfl ?_
          refine z_get (pc := 115) (c := 0) (j := 0) (v := .int (zI (m_ 0 0))) hX rfl zfl_RX6_69 (Nat.le_of_ble_eq_true rfl) (zMod_e (ca := ca) (f := m_ 0)) rfl dX6_walks_115 ?_
          refine z_iconst (pc := 118) hX dX6_walks_118 ?_
          refine z_isub (pc := 119) hX dX6_walks_119 ?_
          obtain ⟨m12, hm12, h⟩ := zpf_s h
          refine z_put (pc := 120) (c := 0) (j := 0) hX rfl zfl_RX6_69 zfi_6_0 (Nat.le_of_ble_eq_true rfl) (zMod_e (ca := ca) (f := m_ 0)) (Nat.le_of_ble_eq_true rfl) (zMod_p0 (ca := ca)) hm12 dX6_walks_120 ?_
          refine z_goto (pc := 123) (tgt := 137) hX dX6_walks_123 (by decide) ?_
          refine z_iinc (pc := 137) (lv' := [(7, .int (zI (v7 + 1))), (0, .ref (ad 0)), (1, .int (zI a1)), (3, .int (zI a3)), (4, .int (zI k4)), (5, .long (zJ ((16807 * v5) % 2147483647)))]) hX 5 dX6_walks_137 rfl (by decide) rfl ?_
          refine z_goto (pc := 140) (tgt := 64) hX dX6_walks_140 (by decide) ?_
          refine z_sub [1, 2, 3, 4, 5, 0] rfl ?_
          exact ih _ _ _ h
          )
      obtain ⟨j104, hj104, h⟩ := zjn_s h (fun (j : Option (Int × zM)) => j = some (r0, m0) → zV X 8 m_ 104 [(0, .ref (ad 0)), (1, .int (zI a1)), (3, .int (zI a3)), (4, .int (zI k4)), (5, .long (zJ ((16807 * v5) % 2147483647))), (7, .int (zI v7))] []) (fun h => by
          refine z_aload_n (pc := 104) hX 0 dX6_walks_104 rfl rfl ?_
          refine z_get (pc := 105) (c := 0) (j := 0) (v := .int (zI (m_ 0 0))) hX rfl zfl_RX6_69 (Nat.le_of_ble_eq_true rfl) (zMod_e (ca := ca) (f := m_ 0)) rfl dX6_walks_105 ?_
          refine z_bipush (pc := 108) hX dX6_walks_108 (by decide +kernel) ?_
          refine z_icmp_ne (pc := 110) (tgt := 126) hX dX6_walks_110 (by decide) (fun hc15 => ?_) (fun hc15 => ?_)
          · replace h := (if_neg hc15).symm.trans h
            refine z_aload_n (pc := 126) hX 0 dX6_walks_126 rfl rfl ?_
            refine z_lload (pc := 127) hX 4 dX6_walks_127 rfl ?_
            refine z_ldc2 (pc := 129) (n := 6) hX zk_RX6_164 (by decide +kernel) dX6_walks_129 ?_
            obtain ⟨g13, h⟩ := zgd_s h
            refine z_lrem (pc := 132) hX g13 dX6_walks_132 ?_
            refine z_l2i (pc := 133) hX dX6_walks_133 ?_
            obtain ⟨m14, hr14, h⟩ := zcl_s h
            refine z_callVv (pc := 134) (v := .null) (c := 0) hX [.int (zI (zw (((16807 * v5) % 2147483647) % 6)))] [] (wX6_push (ca := ca) hG  hr14) rfl zmv_RX6_108 (Nat.le_of_ble_eq_true rfl) (zMod_e (ca := ca) (f := m_ 0)) rfl rfl ⟨rfl, rfl⟩ ⟨by decide, by decide⟩ (Nat.le_of_ble_eq_true rfl) dX6_walks_134 ?_
            refine z_iinc (pc := 137) (lv' := [(7, .int (zI (v7 + 1))), (0, .ref (ad 0)), (1, .int (zI a1)), (3, .int (zI a3)), (4, .int (zI k4)), (5, .long (zJ ((16807 * v5) % 2147483647)))]) hX 5 dX6_walks_137 rfl (by decide) rfl ?_
            refine z_goto (pc := 140) (tgt := 64) hX dX6_walks_140 (by decide) ?_
            refine z_sub [1, 2, 3, 4, 5, 0] rfl ?_
            exact ih _ _ _ h
          · replace h := (if_pos hc15).symm.trans h
            exact hj113 h
          )
      refine z_lcmp_ne (pc := 93) (tgt := 104) hX dX6_walks_93 dX6_walks_94 (by decide) (fun hc17 => ?_) (fun hc17 => ?_)
      · replace h := (if_neg hc17).symm.trans h
        refine z_sub [1, 2, 3, 4, 0, 5] rfl ?_
        exact hj104 h
      · replace h := (if_pos hc17).symm.trans h
        refine z_aload_n (pc := 97) hX 1 dX6_walks_97 rfl rfl ?_
        refine z_get (pc := 98) (c := 0) (j := 0) (v := .int (zI (m_ 0 0))) hX rfl zfl_RX6_69 (Nat.le_of_ble_eq_true rfl) (zMod_e (ca := ca) (f := m_ 0)) rfl dX6_walks_98 ?_
        refine z_if_gt (pc := 101) (tgt := 113) hX dX6_walks_101 (by decide) (fun hc16 => ?_) (fun hc16 => ?_)
        · replace h := (if_pos hc16).symm.trans h
          refine z_sub [1, 2, 3, 4, 0, 5] rfl ?_
          exact hj113 h
        · replace h := (if_neg hc16).symm.trans h
          refine z_sub [1, 2, 3, 4, 0, 5] rfl ?_
          exact hj104 h
set_option maxRecDepth 20000 in
set_option maxHeartbeats 4000000 in
theorem wX6_walks {l : Launch} {D : va_G} {ca : Nat → ClassId} {ad : Nat → Nat} (hG : zGok (zGM D ca ad)) {a1 : Int} {a2 : Int} {a3 : Int} {r0 : Int} {m0 : zM} {m : zM} (h : FX6_walks a1 a2 a3 m = some (r0, m0)) : zCt l (zGM D ca ad) yX6_walks cX6_walks 8 (some .int) rmX6_walks [.ref (ad 0), .int (zI a1), .int (zI a2), .int (zI a3)] m (some (.int (zI r0))) m0 := by
  unfold FX6_walks at h
  refine z_of (plainFor_of_name (by decide +kernel)) hG (Nat.le_of_ble_eq_true rfl) (fun X hX => ?_)
  show zV X 8 m 0 [(0, .ref (ad 0)), (1, .int (zI a1)), (2, .int (zI a2)), (3, .int (zI a3))] []
  refine z_iload_n (pc := 0) hX 1 dX6_walks_0 rfl rfl ?_
  obtain ⟨g1, h⟩ := zgd_s h
  refine z_i2l (pc := 1) hX g1 dX6_walks_1 ?_
  refine z_lconst (pc := 2) (a := 0) hX dX6_walks_2 (by decide +kernel) ?_
  refine z_ldc2 (pc := 3) (n := 60) hX zk_RX6_154 (by decide +kernel) dX6_walks_3 ?_
  obtain ⟨r2, hr2, h⟩ := zcl_s h
  refine z_callSr (pc := 6) hX [.long (zJ a1), .long (zJ 0), .long (zJ 60)] [] (wX6_within (ca := ca) hG  hr2) zms_RX6_90 rfl rfl ⟨rfl, rfl⟩ ⟨by decide, by decide⟩ (Nat.le_of_ble_eq_true rfl) dX6_walks_6 ?_
  refine z_if_eq (pc := 9) (tgt := 34) hX dX6_walks_9 (by decide) (fun hc25 => ?_) (fun hc25 => ?_)
  · replace h := (if_pos hc25).symm.trans h
    refine z_iconst (pc := 34) hX dX6_walks_34 ?_
    exact z_iret (pc := 35) hX rfl rfl (Prod.mk.inj (Option.some.inj h)).1 (Prod.mk.inj (Option.some.inj h)).2 dX6_walks_35
  · replace h := (if_neg hc25).symm.trans h
    refine z_iload_n (pc := 12) hX 2 dX6_walks_12 rfl rfl ?_
    obtain ⟨g3, h⟩ := zgd_s h
    refine z_i2l (pc := 13) hX g3 dX6_walks_13 ?_
    refine z_lconst (pc := 14) (a := 1) hX dX6_walks_14 (by decide +kernel) ?_
    refine z_ldc2 (pc := 15) (n := 999999) hX zk_RX6_156 (by decide +kernel) dX6_walks_15 ?_
    obtain ⟨r4, hr4, h⟩ := zcl_s h
    refine z_callSr (pc := 18) hX [.long (zJ a2), .long (zJ 1), .long (zJ 999999)] [] (wX6_within (ca := ca) hG  hr4) zms_RX6_90 rfl rfl ⟨rfl, rfl⟩ ⟨by decide, by decide⟩ (Nat.le_of_ble_eq_true rfl) dX6_walks_18 ?_
    refine z_if_eq (pc := 21) (tgt := 34) hX dX6_walks_21 (by decide) (fun hc24 => ?_) (fun hc24 => ?_)
    · replace h := (if_pos hc24).symm.trans h
      refine z_iconst (pc := 34) hX dX6_walks_34 ?_
      exact z_iret (pc := 35) hX rfl rfl (Prod.mk.inj (Option.some.inj h)).1 (Prod.mk.inj (Option.some.inj h)).2 dX6_walks_35
    · replace h := (if_neg hc24).symm.trans h
      refine z_iload_n (pc := 24) hX 3 dX6_walks_24 rfl rfl ?_
      obtain ⟨g5, h⟩ := zgd_s h
      refine z_i2l (pc := 25) hX g5 dX6_walks_25 ?_
      refine z_lconst (pc := 26) (a := 0) hX dX6_walks_26 (by decide +kernel) ?_
      refine z_lconst (pc := 27) (a := 1) hX dX6_walks_27 (by decide +kernel) ?_
      obtain ⟨r6, hr6, h⟩ := zcl_s h
      refine z_callSr (pc := 28) hX [.long (zJ a3), .long (zJ 0), .long (zJ 1)] [] (wX6_within (ca := ca) hG  hr6) zms_RX6_90 rfl rfl ⟨rfl, rfl⟩ ⟨by decide, by decide⟩ (Nat.le_of_ble_eq_true rfl) dX6_walks_28 ?_
      refine z_if_ne (pc := 31) (tgt := 36) hX dX6_walks_31 (by decide) (fun hc23 => ?_) (fun hc23 => ?_)
      · replace h := (if_neg hc23).symm.trans h
        refine z_aload_n (pc := 36) hX 0 dX6_walks_36 rfl rfl ?_
        refine z_get (pc := 37) (c := 0) (j := 0) (v := .int (zI (m 0 0))) hX rfl zfl_RX6_69 (Nat.le_of_ble_eq_true rfl) (zMod_e (ca := ca) (f := m 0)) rfl dX6_walks_37 ?_
        refine z_istore (pc := 40) (lv' := [(4, .int (zI (m 0 0))), (0, .ref (ad 0)), (1, .int (zI a1)), (2, .int (zI a2)), (3, .int (zI a3))]) hX dX6_walks_40 (by decide) rfl ?_
        refine z_aload_n (pc := 42) hX 1 dX6_walks_42 rfl rfl ?_
        refine z_get (pc := 43) (c := 0) (j := 1) (v := .ref (ad 1)) hX rfl zfl_RX6_7 (Nat.le_of_ble_eq_true rfl) (zMod_e (ca := ca) (f := m 0)) rfl dX6_walks_43 ?_
        refine z_iconst (pc := 46) hX dX6_walks_46 ?_
        refine z_aload_n (pc := 47) hX 1 dX6_walks_47 rfl rfl ?_
        refine z_get (pc := 48) (c := 0) (j := 17) (v := .ref (ad 14)) hX rfl zfl_RX6_50 (Nat.le_of_ble_eq_true rfl) (zMod_e (ca := ca) (f := m 0)) rfl dX6_walks_48 ?_
        refine z_iconst (pc := 51) hX dX6_walks_51 ?_
        refine z_iload (pc := 52) hX 0 dX6_walks_52 rfl ?_
        obtain ⟨m7, hr7, h⟩ := zcl_s h
        refine z_callSv (pc := 54) (v := .null) hX [.ref (ad 1), .int (zI 0), .ref (ad 14), .int (zI 0), .int (zI (m 0 0))] [] (wX6_bring (ca := ca) hG zMi1 zMi14 hr7) zms_RX6_97 rfl rfl ⟨rfl, rfl⟩ ⟨by decide, by decide⟩ (Nat.le_of_ble_eq_true rfl) dX6_walks_54 ?_
        refine z_iload_n (pc := 57) hX 3 dX6_walks_57 rfl rfl ?_
        obtain ⟨g8, h⟩ := zgd_s h
        refine z_i2l (pc := 58) hX g8 dX6_walks_58 ?_
        refine z_lstore (pc := 59) (lv' := [(5, .long (zJ a2)), (4, .int (zI (m 0 0))), (0, .ref (ad 0)), (1, .int (zI a1)), (2, .int (zI a2)), (3, .int (zI a3))]) hX dX6_walks_59 (by decide) rfl ?_
        refine z_iconst (pc := 61) hX dX6_walks_61 ?_
        refine z_istore (pc := 62) (lv' := [(7, .int (zI 0)), (5, .long (zJ a2)), (4, .int (zI (m 0 0))), (0, .ref (ad 0)), (1, .int (zI a1)), (2, .int (zI a2)), (3, .int (zI a3))]) hX dX6_walks_62 (by decide) rfl ?_
        refine z_sub [3, 4, 6, 2, 1, 0] rfl ?_
        refine wX6_walks_L64 hG  hX (fun y64_5 y64_7 m64_ h => ?_) _ _ _ _ h
        refine z_aload_n (pc := 143) hX 0 dX6_walks_143 rfl rfl ?_
        obtain ⟨m19, hr19, h⟩ := zcl_s h
        refine z_callVv (pc := 144) (v := .null) (c := 0) hX [] [] (wX6_lay (ca := ca) hG  hr19) rfl zmv_RX6_111 (Nat.le_of_ble_eq_true rfl) (zMod_e (ca := ca) (f := m64_ 0)) rfl rfl ⟨rfl, rfl⟩ ⟨by decide, by decide⟩ (Nat.le_of_ble_eq_true rfl) dX6_walks_144 ?_
        refine z_iload_n (pc := 147) hX 2 dX6_walks_147 rfl rfl ?_
        obtain ⟨j162, hj162, h⟩ := zjn_s h (fun (j : Int → Option (Int × zM)) => ∀ (s162_0 : Int), j s162_0 = some (r0, m0) → zV X 8 m19 162 [(0, .ref (ad 0)), (4, .int (zI (m 0 0)))] [.int (zI s162_0)]) (fun s162_0 h => by
            refine z_istore (pc := 162) (lv' := [(7, .int (zI s162_0)), (0, .ref (ad 0)), (4, .int (zI (m 0 0)))]) hX dX6_walks_162 (by decide) rfl ?_
            refine z_aload_n (pc := 164) hX 1 dX6_walks_164 rfl rfl ?_
            refine z_iload (pc := 165) hX 2 dX6_walks_165 rfl ?_
            obtain ⟨m20, hm20, h⟩ := zpf_s h
            refine z_put (pc := 167) (c := 0) (j := 0) hX rfl zfl_RX6_69 zfi_6_0 (Nat.le_of_ble_eq_true rfl) (zMod_e (ca := ca) (f := m19 0)) (Nat.le_of_ble_eq_true rfl) (zMod_p0 (ca := ca)) hm20 dX6_walks_167 ?_
            refine z_aload_n (pc := 170) hX 1 dX6_walks_170 rfl rfl ?_
            refine z_get (pc := 171) (c := 0) (j := 17) (v := .ref (ad 14)) hX rfl zfl_RX6_50 (Nat.le_of_ble_eq_true rfl) (zMod_e (ca := ca) (f := m20 0)) rfl dX6_walks_171 ?_
            refine z_iconst (pc := 174) hX dX6_walks_174 ?_
            refine z_aload_n (pc := 175) hX 1 dX6_walks_175 rfl rfl ?_
            refine z_get (pc := 176) (c := 0) (j := 1) (v := .ref (ad 1)) hX rfl zfl_RX6_7 (Nat.le_of_ble_eq_true rfl) (zMod_e (ca := ca) (f := m20 0)) rfl dX6_walks_176 ?_
            refine z_iconst (pc := 179) hX dX6_walks_179 ?_
            refine z_iload (pc := 180) hX 2 dX6_walks_180 rfl ?_
            obtain ⟨m21, hr21, h⟩ := zcl_s h
            refine z_callSv (pc := 182) (v := .null) hX [.ref (ad 14), .int (zI 0), .ref (ad 1), .int (zI 0), .int (zI (m 0 0))] [] (wX6_bring (ca := ca) hG zMi14 zMi1 hr21) zms_RX6_97 rfl rfl ⟨rfl, rfl⟩ ⟨by decide, by decide⟩ (Nat.le_of_ble_eq_true rfl) dX6_walks_182 ?_
            refine z_iload (pc := 185) hX 0 dX6_walks_185 rfl ?_
            exact z_iret (pc := 187) hX rfl rfl (Prod.mk.inj (Option.some.inj h)).1 (Prod.mk.inj (Option.some.inj h)).2 dX6_walks_187
            )
        refine z_if_ne (pc := 148) (tgt := 158) hX dX6_walks_148 (by decide) (fun hc22 => ?_) (fun hc22 => ?_)
        · replace h := (if_neg hc22).symm.trans h
          refine z_aload_n (pc := 158) hX 0 dX6_walks_158 rfl rfl ?_
          refine z_get (pc := 159) (c := 0) (j := 0) (v := .int (zI (m19 0 0))) hX rfl zfl_RX6_69 (Nat.le_of_ble_eq_true rfl) (zMod_e (ca := ca) (f := m19 0)) rfl dX6_walks_159 ?_
          refine z_sub [0, 3] rfl ?_
          exact hj162 _ h
        · replace h := (if_pos hc22).symm.trans h
          refine z_aload_n (pc := 151) hX 0 dX6_walks_151 rfl rfl ?_
          refine z_get (pc := 152) (c := 0) (j := 12) (v := .int (zI (m19 0 12))) hX rfl zfl_RX6_65 (Nat.le_of_ble_eq_true rfl) (zMod_e (ca := ca) (f := m19 0)) rfl dX6_walks_152 ?_
          refine z_goto (pc := 155) (tgt := 162) hX dX6_walks_155 (by decide) ?_
          refine z_sub [0, 3] rfl ?_
          exact hj162 _ h
      · replace h := (if_pos hc23).symm.trans h
        refine z_iconst (pc := 34) hX dX6_walks_34 ?_
        exact z_iret (pc := 35) hX rfl rfl (Prod.mk.inj (Option.some.inj h)).1 (Prod.mk.inj (Option.some.inj h)).2 dX6_walks_35
