def rmX5_spell : Room := { frames := 2, cells := 0, slots := 0, locals := 45 }
set_option maxRecDepth 20000 in
set_option maxHeartbeats 4000000 in
theorem wX5_spell_L72 {X : zXT} {l : Launch} {D : va_G} {ca : Nat → ClassId} {ad : Nat → Nat} (hG : zGok (zGC D ca ad)) {a1 : Int} {a2 : Int} {a3 : Int} {a4 : Int}  {r0 : Int} {m0 : zM} {k5 : Int} {k7 : Int} (hX : zC X l rmX5_spell (zGC D ca ad) (some (.int (zI r0))) m0 cX5_spell 9 RX5 (some .int)) {k : Int → zM → Option (Int × zM)} (hk : ∀ (v8 : Int) (m_ : zM), k v8 m_ = some (r0, m0) → zV X 9 m_ 114 [(0, .ref (ad 0)), (2, .int (zI a2)), (4, .int (zI a4)), (5, .int (zI k5)), (7, .int (zI k7)), (8, .int (zI v8))] []) : ∀ (n : Nat) (v8 : Int) (m_ : zM), FX5_spell_L72 a1 a2 a3 a4 k5 k7 k n v8 m_ = some (r0, m0) → zV X 9 m_ 72 [(0, .ref (ad 0)), (2, .int (zI a2)), (4, .int (zI a4)), (5, .int (zI k5)), (7, .int (zI k7)), (8, .int (zI v8))] [] := by
  intro n
  induction n with
  | zero => intro v8 m_ h; cases h
  | succ n ih =>
    intro v8 m_ h
    replace h : FX5_spell_L72_B a1 a2 a3 a4 k5 k7 k (FX5_spell_L72 a1 a2 a3 a4 k5 k7 k n) v8 m_ = some (r0, m0) := h
    unfold FX5_spell_L72_B at h
    refine z_iload (pc := 72) hX 5 dX5_spell_72 rfl ?_
    refine z_iload (pc := 74) hX 3 dX5_spell_74 rfl ?_
    refine z_icmp_ge (pc := 76) (tgt := 114) hX dX5_spell_76 (by decide) (fun hc12 => ?_) (fun hc12 => ?_)
    · replace h := (if_neg hc12).symm.trans h
      exact hk _ _ h
    · replace h := (if_pos hc12).symm.trans h
      refine z_aload_n (pc := 79) hX 0 dX5_spell_79 rfl rfl ?_
      refine z_get (pc := 80) (c := 0) (j := 6) (v := .ref (ad 35)) hX rfl zfl_RX5_48 (Nat.le_of_ble_eq_true rfl) (zMain_e (ca := ca) (f := m_ 0)) rfl dX5_spell_80 ?_
      refine z_iload_n (pc := 83) hX 1 dX5_spell_83 rfl rfl ?_
      obtain ⟨hi8, h⟩ := zix_s h
      refine z_aald (pc := 84) (c := 35) hX zCr35 hi8 dX5_spell_84 ?_
      refine z_iload (pc := 85) hX 2 dX5_spell_85 rfl ?_
      refine z_iload (pc := 87) hX 5 dX5_spell_87 rfl ?_
      refine z_iadd (pc := 89) hX dX5_spell_89 ?_
      refine z_aload_n (pc := 90) hX 0 dX5_spell_90 rfl rfl ?_
      refine z_get (pc := 91) (c := 0) (j := 0) (v := .ref (ad 1)) hX rfl zfl_RX5_12 (Nat.le_of_ble_eq_true rfl) (zMain_e (ca := ca) (f := m_ 0)) rfl dX5_spell_91 ?_
      refine z_get (pc := 94) (c := 1) (j := 0) (v := .ref (ad 2)) hX rfl zfl_RX5_86 (zCat_lt (Or.inl rfl)) (zCat_e (ca := ca) (f := m_ 1) (Or.inl rfl)) rfl dX5_spell_94 ?_
      refine z_iload (pc := 97) hX 4 dX5_spell_97 rfl ?_
      refine z_iload (pc := 99) hX 5 dX5_spell_99 rfl ?_
      refine z_iadd (pc := 101) hX dX5_spell_101 ?_
      obtain ⟨x9, hx9, hi9, h⟩ := zrd_s h
      refine z_iald (pc := 102) (c := 2) hX (zCat_a1 (Or.inl rfl)) hi9 hx9 dX5_spell_102 ?_
      obtain ⟨g10, h⟩ := zgd_s h
      refine z_i2l (pc := 103) hX g10 dX5_spell_103 ?_
      obtain ⟨r11, m11, hr11, h⟩ := zcl2_s h
      refine z_callVr (pc := 104) (c := (36 + 2 * (a2).toNat)) hX [.int (zI (a4 + v8)), .long (zJ x9)] [] (wX4_store (ca := ca) hG (zSht_k hi8) hr11) rfl zmv_RX5_234 (zSht_lt (zSht_k hi8)) (zSht_e (ca := ca) (f := m_ (36 + 2 * (a2).toNat)) (zSht_k hi8)) rfl rfl ⟨rfl, rfl⟩ ⟨by decide, by decide⟩ (Nat.le_of_ble_eq_true rfl) dX5_spell_104 ?_
      refine z_pop2 (pc := 107) hX dX5_spell_107 rfl ?_
      refine z_iinc (pc := 108) (lv' := [(8, .int (zI (v8 + 1))), (0, .ref (ad 0)), (2, .int (zI a2)), (4, .int (zI a4)), (5, .int (zI k5)), (7, .int (zI k7))]) hX 5 dX5_spell_108 rfl (by decide) rfl ?_
      refine z_goto (pc := 111) (tgt := 72) hX dX5_spell_111 (by decide) ?_
      refine z_sub [1, 2, 3, 4, 5, 0] rfl ?_
      exact ih _ _ h
set_option maxRecDepth 20000 in
set_option maxHeartbeats 4000000 in
theorem wX5_spell {l : Launch} {D : va_G} {ca : Nat → ClassId} {ad : Nat → Nat} (hG : zGok (zGC D ca ad)) {a1 : Int} {a2 : Int} {a3 : Int} {a4 : Int} {r0 : Int} {m0 : zM} {m : zM} (h : FX5_spell a1 a2 a3 a4 m = some (r0, m0)) : zCt l (zGC D ca ad) yX5_spell cX5_spell 9 (some .int) rmX5_spell [.ref (ad 0), .int (zI a1), .int (zI a2), .int (zI a3), .int (zI a4)] m (some (.int (zI r0))) m0 := by
  unfold FX5_spell at h
  refine z_of (plainFor_of_name (by decide +kernel)) hG (Nat.le_of_ble_eq_true rfl) (fun X hX => ?_)
  show zV X 9 m 0 [(0, .ref (ad 0)), (1, .int (zI a1)), (2, .int (zI a2)), (3, .int (zI a3)), (4, .int (zI a4))] []
  refine z_aload_n (pc := 0) hX 0 dX5_spell_0 rfl rfl ?_
  refine z_iload_n (pc := 1) hX 1 dX5_spell_1 rfl rfl ?_
  obtain ⟨r1, hr1, h⟩ := zcl_s h
  refine z_callVr (pc := 2) (c := 0) hX [.int (zI a1)] [] (wX5_isNode (ca := ca) hG  hr1) rfl zmv_RX5_98 (Nat.le_of_ble_eq_true rfl) (zMain_e (ca := ca) (f := m 0)) rfl rfl ⟨rfl, rfl⟩ ⟨by decide, by decide⟩ (Nat.le_of_ble_eq_true rfl) dX5_spell_2 ?_
  refine z_if_eq (pc := 5) (tgt := 22) hX dX5_spell_5 (by decide) (fun hc16 => ?_) (fun hc16 => ?_)
  · replace h := (if_pos hc16).symm.trans h
    refine z_iconst (pc := 22) hX dX5_spell_22 ?_
    exact z_iret (pc := 23) hX rfl rfl (Prod.mk.inj (Option.some.inj h)).1 (Prod.mk.inj (Option.some.inj h)).2 dX5_spell_23
  · replace h := (if_neg hc16).symm.trans h
    refine z_iload_n (pc := 8) hX 2 dX5_spell_8 rfl rfl ?_
    obtain ⟨r2, hr2, h⟩ := zcl_s h
    refine z_callSr (pc := 9) hX [.int (zI a2)] [] (wX5_isSheet (ca := ca) hG  hr2) zms_RX5_218 rfl rfl ⟨rfl, rfl⟩ ⟨by decide, by decide⟩ (Nat.le_of_ble_eq_true rfl) dX5_spell_9 ?_
    refine z_if_eq (pc := 12) (tgt := 22) hX dX5_spell_12 (by decide) (fun hc15 => ?_) (fun hc15 => ?_)
    · replace h := (if_pos hc15).symm.trans h
      refine z_iconst (pc := 22) hX dX5_spell_22 ?_
      exact z_iret (pc := 23) hX rfl rfl (Prod.mk.inj (Option.some.inj h)).1 (Prod.mk.inj (Option.some.inj h)).2 dX5_spell_23
    · replace h := (if_neg hc15).symm.trans h
      refine z_iload_n (pc := 15) hX 3 dX5_spell_15 rfl rfl ?_
      obtain ⟨r3, hr3, h⟩ := zcl_s h
      refine z_callSr (pc := 16) hX [.int (zI a3)] [] (wX5_isLane (ca := ca) hG  hr3) zms_RX5_221 rfl rfl ⟨rfl, rfl⟩ ⟨by decide, by decide⟩ (Nat.le_of_ble_eq_true rfl) dX5_spell_16 ?_
      refine z_if_ne (pc := 19) (tgt := 24) hX dX5_spell_19 (by decide) (fun hc14 => ?_) (fun hc14 => ?_)
      · replace h := (if_neg hc14).symm.trans h
        refine z_aload_n (pc := 24) hX 0 dX5_spell_24 rfl rfl ?_
        refine z_get (pc := 25) (c := 0) (j := 0) (v := .ref (ad 1)) hX rfl zfl_RX5_12 (Nat.le_of_ble_eq_true rfl) (zMain_e (ca := ca) (f := m 0)) rfl dX5_spell_25 ?_
        refine z_get (pc := 28) (c := 1) (j := 2) (v := .ref (ad 4)) hX rfl zfl_RX5_101 (zCat_lt (Or.inl rfl)) (zCat_e (ca := ca) (f := m 1) (Or.inl rfl)) rfl dX5_spell_28 ?_
        refine z_iload_n (pc := 31) hX 1 dX5_spell_31 rfl rfl ?_
        obtain ⟨x4, hx4, hi4, h⟩ := zrd_s h
        refine z_iald (pc := 32) (c := 4) hX (zCat_a3 (Or.inl rfl)) hi4 hx4 dX5_spell_32 ?_
        refine z_istore (pc := 33) (lv' := [(5, .int (zI x4)), (0, .ref (ad 0)), (1, .int (zI a1)), (2, .int (zI a2)), (3, .int (zI a3)), (4, .int (zI a4))]) hX dX5_spell_33 (by decide) rfl ?_
        refine z_aload_n (pc := 35) hX 1 dX5_spell_35 rfl rfl ?_
        refine z_get (pc := 36) (c := 0) (j := 6) (v := .ref (ad 35)) hX rfl zfl_RX5_48 (Nat.le_of_ble_eq_true rfl) (zMain_e (ca := ca) (f := m 0)) rfl dX5_spell_36 ?_
        refine z_iload_n (pc := 39) hX 3 dX5_spell_39 rfl rfl ?_
        obtain ⟨hi5, h⟩ := zix_s h
        refine z_aald (pc := 40) (c := 35) hX zCr35 hi5 dX5_spell_40 ?_
        refine z_iload_n (pc := 41) hX 4 dX5_spell_41 rfl rfl ?_
        refine z_iload (pc := 42) hX 5 dX5_spell_42 rfl ?_
        refine z_iload (pc := 44) hX 0 dX5_spell_44 rfl ?_
        obtain ⟨r6, hr6, h⟩ := zcl_s h
        refine z_callVr (pc := 46) (c := (36 + 2 * (a2).toNat)) hX [.int (zI a3), .int (zI a4), .int (zI x4)] [] (wX4_refusal (ca := ca) hG (zSht_k hi5) hr6) rfl zmv_RX5_230 (zSht_lt (zSht_k hi5)) (zSht_e (ca := ca) (f := m (36 + 2 * (a2).toNat)) (zSht_k hi5)) rfl rfl ⟨rfl, rfl⟩ ⟨by decide, by decide⟩ (Nat.le_of_ble_eq_true rfl) dX5_spell_46 ?_
        refine z_istore (pc := 49) (lv' := [(6, .int (zI r6)), (5, .int (zI x4)), (0, .ref (ad 0)), (1, .int (zI a1)), (2, .int (zI a2)), (3, .int (zI a3)), (4, .int (zI a4))]) hX dX5_spell_49 (by decide) rfl ?_
        refine z_iload (pc := 51) hX 0 dX5_spell_51 rfl ?_
        refine z_if_eq (pc := 53) (tgt := 59) hX dX5_spell_53 (by decide) (fun hc13 => ?_) (fun hc13 => ?_)
        · replace h := (if_pos hc13).symm.trans h
          refine z_aload_n (pc := 59) hX 2 dX5_spell_59 rfl rfl ?_
          refine z_get (pc := 60) (c := 0) (j := 0) (v := .ref (ad 1)) hX rfl zfl_RX5_12 (Nat.le_of_ble_eq_true rfl) (zMain_e (ca := ca) (f := m 0)) rfl dX5_spell_60 ?_
          refine z_iload_n (pc := 63) hX 3 dX5_spell_63 rfl rfl ?_
          obtain ⟨r7, hr7, h⟩ := zcl_s h
          refine z_callVr (pc := 64) (c := 1) hX [.int (zI a1)] [] (wX1_firstPlace (ca := ca) hG (Or.inl rfl) hr7) rfl zmv_RX5_104 (zCat_lt (Or.inl rfl)) (zCat_e (ca := ca) (f := m 1) (Or.inl rfl)) rfl rfl ⟨rfl, rfl⟩ ⟨by decide, by decide⟩ (Nat.le_of_ble_eq_true rfl) dX5_spell_64 ?_
          refine z_istore (pc := 67) (lv' := [(7, .int (zI r7)), (6, .int (zI r6)), (5, .int (zI x4)), (0, .ref (ad 0)), (1, .int (zI a1)), (2, .int (zI a2)), (3, .int (zI a3)), (4, .int (zI a4))]) hX dX5_spell_67 (by decide) rfl ?_
          refine z_iconst (pc := 69) hX dX5_spell_69 ?_
          refine z_istore (pc := 70) (lv' := [(8, .int (zI 0)), (7, .int (zI r7)), (6, .int (zI r6)), (5, .int (zI x4)), (0, .ref (ad 0)), (1, .int (zI a1)), (2, .int (zI a2)), (3, .int (zI a3)), (4, .int (zI a4))]) hX dX5_spell_70 (by decide) rfl ?_
          refine z_sub [4, 6, 8, 3, 1, 0] rfl ?_
          refine wX5_spell_L72 hG  hX (fun y72_8 m72_ h => ?_) _ _ _ h
          refine z_iload (pc := 114) hX 3 dX5_spell_114 rfl ?_
          exact z_iret (pc := 116) hX rfl rfl (Prod.mk.inj (Option.some.inj h)).1 (Prod.mk.inj (Option.some.inj h)).2 dX5_spell_116
        · replace h := (if_neg hc13).symm.trans h
          refine z_iload (pc := 56) hX 0 dX5_spell_56 rfl ?_
          exact z_iret (pc := 58) hX rfl rfl (Prod.mk.inj (Option.some.inj h)).1 (Prod.mk.inj (Option.some.inj h)).2 dX5_spell_58
      · replace h := (if_pos hc14).symm.trans h
        refine z_iconst (pc := 22) hX dX5_spell_22 ?_
        exact z_iret (pc := 23) hX rfl rfl (Prod.mk.inj (Option.some.inj h)).1 (Prod.mk.inj (Option.some.inj h)).2 dX5_spell_23
def rmX5_times : Room := { frames := 2, cells := 0, slots := 0, locals := 50 }
set_option maxRecDepth 20000 in
set_option maxHeartbeats 4000000 in
theorem wX5_times {l : Launch} {D : va_G} {ca : Nat → ClassId} {ad : Nat → Nat} (hG : zGok (zGC D ca ad))  {r0 : Int} {m : zM} (h : FX5_times m = some r0) : zCt l (zGC D ca ad) yX5_times cX5_times 1 (some .int) rmX5_times [.ref (ad 0)] m (some (.int (zI r0))) m := by
  unfold FX5_times at h
  refine z_of (plainFor_of_name (by decide +kernel)) hG (Nat.le_of_ble_eq_true rfl) (fun X hX => ?_)
  show zV X 1 m 0 [(0, .ref (ad 0))] []
  refine z_aload_n (pc := 0) hX 0 dX5_times_0 rfl rfl ?_
  refine z_get (pc := 1) (c := 0) (j := 5) (v := .ref (ad 33)) hX rfl zfl_RX5_42 (Nat.le_of_ble_eq_true rfl) (zMain_e (ca := ca) (f := m 0)) rfl dX5_times_1 ?_
  refine z_get (pc := 4) (c := 33) (j := 1) (v := .int (zI (m 33 1))) hX rfl zfl_RX5_137 (zRow_lt (Or.inr (Or.inr rfl))) (zRow_e (ca := ca) (f := m 33) (Or.inr (Or.inr rfl))) rfl dX5_times_4 ?_
  refine z_if_ne (pc := 7) (tgt := 14) hX dX5_times_7 (by decide) (fun hc2 => ?_) (fun hc2 => ?_)
  · replace h := (if_neg hc2).symm.trans h
    refine z_aload_n (pc := 14) hX 0 dX5_times_14 rfl rfl ?_
    refine z_get (pc := 15) (c := 0) (j := 0) (v := .ref (ad 1)) hX rfl zfl_RX5_12 (Nat.le_of_ble_eq_true rfl) (zMain_e (ca := ca) (f := m 0)) rfl dX5_times_15 ?_
    refine z_aload_n (pc := 18) hX 0 dX5_times_18 rfl rfl ?_
    refine z_get (pc := 19) (c := 0) (j := 5) (v := .ref (ad 33)) hX rfl zfl_RX5_42 (Nat.le_of_ble_eq_true rfl) (zMain_e (ca := ca) (f := m 0)) rfl dX5_times_19 ?_
    refine z_get (pc := 22) (c := 33) (j := 0) (v := .ref (ad 34)) hX rfl zfl_RX5_138 (zRow_lt (Or.inr (Or.inr rfl))) (zRow_e (ca := ca) (f := m 33) (Or.inr (Or.inr rfl))) rfl dX5_times_22 ?_
    refine z_iconst (pc := 25) hX dX5_times_25 ?_
    refine z_aload_n (pc := 26) hX 0 dX5_times_26 rfl rfl ?_
    refine z_get (pc := 27) (c := 0) (j := 5) (v := .ref (ad 33)) hX rfl zfl_RX5_42 (Nat.le_of_ble_eq_true rfl) (zMain_e (ca := ca) (f := m 0)) rfl dX5_times_27 ?_
    refine z_get (pc := 30) (c := 33) (j := 1) (v := .int (zI (m 33 1))) hX rfl zfl_RX5_137 (zRow_lt (Or.inr (Or.inr rfl))) (zRow_e (ca := ca) (f := m 33) (Or.inr (Or.inr rfl))) rfl dX5_times_30 ?_
    obtain ⟨r1, hr1, h⟩ := zcl_s h
    refine z_callVr (pc := 33) (c := 1) hX [.ref (ad 34), .int (zI 0), .int (zI (m 33 1))] [] (wX1_places (ca := ca) hG (Or.inl rfl) (zRow_a1 (Or.inr (Or.inr rfl))) hr1) rfl zmv_RX5_110 (zCat_lt (Or.inl rfl)) (zCat_e (ca := ca) (f := m 1) (Or.inl rfl)) rfl rfl ⟨rfl, rfl⟩ ⟨by decide, by decide⟩ (Nat.le_of_ble_eq_true rfl) dX5_times_33 ?_
    exact z_iret (pc := 36) hX rfl rfl (Option.some.inj h) rfl dX5_times_36
  · replace h := (if_pos hc2).symm.trans h
    refine z_iconst (pc := 10) hX dX5_times_10 ?_
    refine z_goto (pc := 11) (tgt := 36) hX dX5_times_11 (by decide) ?_
    exact z_iret (pc := 36) hX rfl rfl (Option.some.inj h) rfl dX5_times_36
def rmX5_turned : Room := { frames := 2, cells := 0, slots := 0, locals := 43 }
set_option maxRecDepth 20000 in
set_option maxHeartbeats 4000000 in
theorem wX5_turned_L27 {X : zXT} {l : Launch} {D : va_G} {ca : Nat → ClassId} {ad : Nat → Nat} (hG : zGok (zGC D ca ad)) {a1 : Int}  {r0 : Int} {m : zM}  (hX : zC X l rmX5_turned (zGC D ca ad) (some (.int (zI r0))) m cX5_turned 5 RX5 (some .int)) {k : Int → Int → Int → Option (Int)} (hk : ∀ (v2 : Int) (v3 : Int) (v4 : Int), k v2 v3 v4 = some r0 → zV X 5 m 56 [(0, .ref (ad 0)), (1, .int (zI a1)), (2, .int (zI v2)), (3, .int (zI v3)), (4, .int (zI v4))] []) : ∀ (n : Nat) (v2 : Int) (v3 : Int) (v4 : Int), FX5_turned_L27 a1 m k n v2 v3 v4 = some r0 → zV X 5 m 27 [(0, .ref (ad 0)), (1, .int (zI a1)), (2, .int (zI v2)), (3, .int (zI v3)), (4, .int (zI v4))] [] := by
  intro n
  induction n with
  | zero => intro v2 v3 v4 h; cases h
  | succ n ih =>
    intro v2 v3 v4 h
    replace h : FX5_turned_L27_B a1 m k (FX5_turned_L27 a1 m k n) v2 v3 v4 = some r0 := h
    unfold FX5_turned_L27_B at h
    refine z_iload (pc := 27) hX 4 dX5_turned_27 rfl ?_
    refine z_if_lt (pc := 29) (tgt := 56) hX dX5_turned_29 (by decide) (fun hc4 => ?_) (fun hc4 => ?_)
    · replace h := (if_pos hc4).symm.trans h
      exact hk _ _ _ h
    · replace h := (if_neg hc4).symm.trans h
      refine z_aload_n (pc := 32) hX 0 dX5_turned_32 rfl rfl ?_
      refine z_get (pc := 33) (c := 0) (j := 0) (v := .ref (ad 1)) hX rfl zfl_RX5_12 (Nat.le_of_ble_eq_true rfl) (zMain_e (ca := ca) (f := m 0)) rfl dX5_turned_33 ?_
      refine z_iload (pc := 36) hX 4 dX5_turned_36 rfl ?_
      obtain ⟨r2, hr2, h⟩ := zcl_s h
      refine z_callVr (pc := 38) (c := 1) hX [.int (zI v4)] [] (wX1_isMirrorTurned (ca := ca) hG (Or.inl rfl) hr2) rfl zmv_RX5_185 (zCat_lt (Or.inl rfl)) (zCat_e (ca := ca) (f := m 1) (Or.inl rfl)) rfl rfl ⟨rfl, rfl⟩ ⟨by decide, by decide⟩ (Nat.le_of_ble_eq_true rfl) dX5_turned_38 ?_
      refine z_if_eq (pc := 41) (tgt := 50) hX dX5_turned_41 (by decide) (fun hc3 => ?_) (fun hc3 => ?_)
      · replace h := (if_pos hc3).symm.trans h
        refine z_iinc (pc := 50) (lv' := [(4, .int (zI (v4 + -1))), (0, .ref (ad 0)), (1, .int (zI a1)), (2, .int (zI v2)), (3, .int (zI v3))]) hX 4 dX5_turned_50 rfl (by decide) rfl ?_
        refine z_goto (pc := 53) (tgt := 27) hX dX5_turned_53 (by decide) ?_
        refine z_sub [1, 2, 3, 4, 0] rfl ?_
        exact ih _ _ _ h
      · replace h := (if_neg hc3).symm.trans h
        refine z_iinc (pc := 44) (lv' := [(2, .int (zI (v2 + 1))), (0, .ref (ad 0)), (1, .int (zI a1)), (3, .int (zI v3)), (4, .int (zI v4))]) hX 2 dX5_turned_44 rfl (by decide) rfl ?_
        refine z_iload (pc := 47) hX 4 dX5_turned_47 rfl ?_
        refine z_istore_n (pc := 49) (lv' := [(3, .int (zI v4)), (2, .int (zI (v2 + 1))), (0, .ref (ad 0)), (1, .int (zI a1)), (4, .int (zI v4))]) hX dX5_turned_49 rfl (by decide) rfl ?_
        refine z_iinc (pc := 50) (lv' := [(4, .int (zI (v4 + -1))), (3, .int (zI v4)), (2, .int (zI (v2 + 1))), (0, .ref (ad 0)), (1, .int (zI a1))]) hX 4 dX5_turned_50 rfl (by decide) rfl ?_
        refine z_goto (pc := 53) (tgt := 27) hX dX5_turned_53 (by decide) ?_
        refine z_sub [3, 4, 2, 1, 0] rfl ?_
        exact ih _ _ _ h
set_option maxRecDepth 20000 in
set_option maxHeartbeats 4000000 in
theorem wX5_turned {l : Launch} {D : va_G} {ca : Nat → ClassId} {ad : Nat → Nat} (hG : zGok (zGC D ca ad)) {a1 : Int} {r0 : Int} {m : zM} (h : FX5_turned a1 m = some r0) : zCt l (zGC D ca ad) yX5_turned cX5_turned 5 (some .int) rmX5_turned [.ref (ad 0), .int (zI a1)] m (some (.int (zI r0))) m := by
  unfold FX5_turned at h
  refine z_of (plainFor_of_name (by decide +kernel)) hG (Nat.le_of_ble_eq_true rfl) (fun X hX => ?_)
  show zV X 5 m 0 [(0, .ref (ad 0)), (1, .int (zI a1))] []
  refine z_iload_n (pc := 0) hX 1 dX5_turned_0 rfl rfl ?_
  refine z_iconst (pc := 1) hX dX5_turned_1 ?_
  refine z_iconst (pc := 2) hX dX5_turned_2 ?_
  obtain ⟨r1, hr1, h⟩ := zcl_s h
  refine z_callSr (pc := 3) hX [.int (zI a1), .int (zI 0), .int (zI 1)] [] (wX5_within (ca := ca) hG  hr1) zms_RX5_129 rfl rfl ⟨rfl, rfl⟩ ⟨by decide, by decide⟩ (Nat.le_of_ble_eq_true rfl) dX5_turned_3 ?_
  refine z_if_ne (pc := 6) (tgt := 11) hX dX5_turned_6 (by decide) (fun hc6 => ?_) (fun hc6 => ?_)
  · replace h := (if_neg hc6).symm.trans h
    refine z_iconst (pc := 11) hX dX5_turned_11 ?_
    refine z_istore_n (pc := 12) (lv' := [(2, .int (zI 0)), (0, .ref (ad 0)), (1, .int (zI a1))]) hX dX5_turned_12 rfl (by decide) rfl ?_
    refine z_bipush (pc := 13) hX dX5_turned_13 (by decide +kernel) ?_
    refine z_istore_n (pc := 15) (lv' := [(3, .int (zI (-4))), (2, .int (zI 0)), (0, .ref (ad 0)), (1, .int (zI a1))]) hX dX5_turned_15 rfl (by decide) rfl ?_
    refine z_aload_n (pc := 16) hX 2 dX5_turned_16 rfl rfl ?_
    refine z_get (pc := 17) (c := 0) (j := 0) (v := .ref (ad 1)) hX rfl zfl_RX5_12 (Nat.le_of_ble_eq_true rfl) (zMain_e (ca := ca) (f := m 0)) rfl dX5_turned_17 ?_
    refine z_get (pc := 20) (c := 1) (j := 9) (v := .int (zI (m 1 9))) hX rfl zfl_RX5_64 (zCat_lt (Or.inl rfl)) (zCat_e (ca := ca) (f := m 1) (Or.inl rfl)) rfl dX5_turned_20 ?_
    refine z_iconst (pc := 23) hX dX5_turned_23 ?_
    refine z_isub (pc := 24) hX dX5_turned_24 ?_
    refine z_istore (pc := 25) (lv' := [(4, .int (zI ((m 1 9) - 1))), (3, .int (zI (-4))), (2, .int (zI 0)), (0, .ref (ad 0)), (1, .int (zI a1))]) hX dX5_turned_25 (by decide) rfl ?_
    refine z_sub [3, 4, 2, 1, 0] rfl ?_
    refine wX5_turned_L27 hG  hX (fun y27_2 y27_3 y27_4 h => ?_) _ _ _ _ h
    refine z_iload_n (pc := 56) hX 1 dX5_turned_56 rfl rfl ?_
    refine z_if_ne (pc := 57) (tgt := 64) hX dX5_turned_57 (by decide) (fun hc5 => ?_) (fun hc5 => ?_)
    · replace h := (if_neg hc5).symm.trans h
      refine z_iload_n (pc := 64) hX 3 dX5_turned_64 rfl rfl ?_
      exact z_iret (pc := 65) hX rfl rfl (Option.some.inj h) rfl dX5_turned_65
    · replace h := (if_pos hc5).symm.trans h
      refine z_iload_n (pc := 60) hX 2 dX5_turned_60 rfl rfl ?_
      refine z_goto (pc := 61) (tgt := 65) hX dX5_turned_61 (by decide) ?_
      exact z_iret (pc := 65) hX rfl rfl (Option.some.inj h) rfl dX5_turned_65
  · replace h := (if_pos hc6).symm.trans h
    refine z_iconst (pc := 9) hX dX5_turned_9 ?_
    exact z_iret (pc := 10) hX rfl rfl (Option.some.inj h) rfl dX5_turned_10
def rmX5_undo : Room := { frames := 5, cells := 0, slots := 0, locals := 117 }
set_option maxRecDepth 20000 in
set_option maxHeartbeats 4000000 in
theorem wX5_undo {l : Launch} {D : va_G} {ca : Nat → ClassId} {ad : Nat → Nat} (hG : zGok (zGC D ca ad))  {r0 : Int} {m0 : zM} {m : zM} (h : FX5_undo m = some (r0, m0)) : zCt l (zGC D ca ad) yX5_undo cX5_undo 1 (some .int) rmX5_undo [.ref (ad 0)] m (some (.int (zI r0))) m0 := by
  unfold FX5_undo at h
  refine z_of (plainFor_of_name (by decide +kernel)) hG (Nat.le_of_ble_eq_true rfl) (fun X hX => ?_)
  show zV X 1 m 0 [(0, .ref (ad 0))] []
  refine z_aload_n (pc := 0) hX 0 dX5_undo_0 rfl rfl ?_
  refine z_get (pc := 1) (c := 0) (j := 2) (v := .ref (ad 21)) hX rfl zfl_RX5_22 (Nat.le_of_ble_eq_true rfl) (zMain_e (ca := ca) (f := m 0)) rfl dX5_undo_1 ?_
  refine z_get (pc := 4) (c := 21) (j := 3) (v := .int (zI (m 21 3))) hX rfl zfl_RX5_93 (Nat.le_of_ble_eq_true rfl) (zActs_e (ca := ca) (f := m 21)) rfl dX5_undo_4 ?_
  refine z_if_ne (pc := 7) (tgt := 13) hX dX5_undo_7 (by decide) (fun hc2 => ?_) (fun hc2 => ?_)
  · replace h := (if_neg hc2).symm.trans h
    refine z_aload_n (pc := 13) hX 0 dX5_undo_13 rfl rfl ?_
    refine z_get (pc := 14) (c := 0) (j := 2) (v := .ref (ad 21)) hX rfl zfl_RX5_22 (Nat.le_of_ble_eq_true rfl) (zMain_e (ca := ca) (f := m 0)) rfl dX5_undo_14 ?_
    refine z_aload_n (pc := 17) hX 0 dX5_undo_17 rfl rfl ?_
    refine z_get (pc := 18) (c := 0) (j := 0) (v := .ref (ad 1)) hX rfl zfl_RX5_12 (Nat.le_of_ble_eq_true rfl) (zMain_e (ca := ca) (f := m 0)) rfl dX5_undo_18 ?_
    obtain ⟨m1, hr1, h⟩ := zcl_s h
    refine z_callVv (pc := 21) (v := .null) (c := 21) hX [.ref (ad 1)] [] (wX0_takeBackLatest (ca := ca) hG (Or.inl rfl) hr1) rfl zmv_RX5_94 (Nat.le_of_ble_eq_true rfl) (zActs_e (ca := ca) (f := m 21)) rfl rfl ⟨rfl, rfl⟩ ⟨by decide, by decide⟩ (Nat.le_of_ble_eq_true rfl) dX5_undo_21 ?_
    refine z_aload_n (pc := 24) hX 0 dX5_undo_24 rfl rfl ?_
    refine z_get (pc := 25) (c := 0) (j := 2) (v := .ref (ad 21)) hX rfl zfl_RX5_22 (Nat.le_of_ble_eq_true rfl) (zMain_e (ca := ca) (f := m1 0)) rfl dX5_undo_25 ?_
    refine z_get (pc := 28) (c := 21) (j := 3) (v := .int (zI (m1 21 3))) hX rfl zfl_RX5_93 (Nat.le_of_ble_eq_true rfl) (zActs_e (ca := ca) (f := m1 21)) rfl dX5_undo_28 ?_
    exact z_iret (pc := 31) hX rfl rfl (Prod.mk.inj (Option.some.inj h)).1 (Prod.mk.inj (Option.some.inj h)).2 dX5_undo_31
  · replace h := (if_pos hc2).symm.trans h
    refine z_bipush (pc := 10) hX dX5_undo_10 (by decide +kernel) ?_
    exact z_iret (pc := 12) hX rfl rfl (Prod.mk.inj (Option.some.inj h)).1 (Prod.mk.inj (Option.some.inj h)).2 dX5_undo_12
def rmX5_walks : Room := { frames := 4, cells := 0, slots := 0, locals := 96 }
set_option maxRecDepth 20000 in
set_option maxHeartbeats 4000000 in
theorem wX5_walks_L60 {X : zXT} {l : Launch} {D : va_G} {ca : Nat → ClassId} {ad : Nat → Nat} (hG : zGok (zGC D ca ad)) {a1 : Int} {a2 : Int} {a3 : Int}  {r0 : Int} {m0 : zM}  (hX : zC X l rmX5_walks (zGC D ca ad) (some (.int (zI r0))) m0 cX5_walks 8 RX5 (some .int)) {k : Int → Int → zM → Option (Int × zM)} (hk : ∀ (v4 : Int) (v6 : Int) (m_ : zM), k v4 v6 m_ = some (r0, m0) → zV X 8 m_ 161 [(0, .ref (ad 0)), (1, .int (zI a1)), (3, .int (zI a3)), (4, .long (zJ v4)), (6, .int (zI v6))] []) : ∀ (n : Nat) (v4 : Int) (v6 : Int) (m_ : zM), FX5_walks_L60 a1 a2 a3 k n v4 v6 m_ = some (r0, m0) → zV X 8 m_ 60 [(0, .ref (ad 0)), (1, .int (zI a1)), (3, .int (zI a3)), (4, .long (zJ v4)), (6, .int (zI v6))] [] := by
  intro n
  induction n with
  | zero => intro v4 v6 m_ h; cases h
  | succ n ih =>
    intro v4 v6 m_ h
    replace h : FX5_walks_L60_B a1 a2 a3 k (FX5_walks_L60 a1 a2 a3 k n) v4 v6 m_ = some (r0, m0) := h
    unfold FX5_walks_L60_B at h
    refine z_iload (pc := 60) hX 4 dX5_walks_60 rfl ?_
    refine z_iload_n (pc := 62) hX 1 dX5_walks_62 rfl rfl ?_
    refine z_icmp_ge (pc := 63) (tgt := 161) hX dX5_walks_63 (by decide) (fun hc16 => ?_) (fun hc16 => ?_)
    · replace h := (if_neg hc16).symm.trans h
      exact hk _ _ _ h
    · replace h := (if_pos hc16).symm.trans h
      refine z_ldc2 (pc := 66) (n := 16807) hX zk_RX5_201 (by decide +kernel) dX5_walks_66 ?_
      refine z_lload (pc := 69) hX 3 dX5_walks_69 rfl ?_
      refine z_lmul (pc := 71) hX dX5_walks_71 ?_
      refine z_ldc2 (pc := 72) (n := 2147483647) hX zk_RX5_203 (by decide +kernel) dX5_walks_72 ?_
      obtain ⟨g6, h⟩ := zgd_s h
      refine z_lrem (pc := 75) hX g6 dX5_walks_75 ?_
      refine z_lstore (pc := 76) (lv' := [(4, .long (zJ ((16807 * v4) % 2147483647))), (0, .ref (ad 0)), (1, .int (zI a1)), (3, .int (zI a3)), (6, .int (zI v6))]) hX dX5_walks_76 (by decide) rfl ?_
      refine z_lload (pc := 78) hX 0 dX5_walks_78 rfl ?_
      refine z_ldc2 (pc := 80) (n := 64) hX zk_RX5_205 (by decide +kernel) dX5_walks_80 ?_
      obtain ⟨g7, h⟩ := zgd_s h
      refine z_ldiv (pc := 83) hX g7 dX5_walks_83 ?_
      refine z_ldc2 (pc := 84) (n := 4) hX zk_RX5_207 (by decide +kernel) dX5_walks_84 ?_
      obtain ⟨g8, h⟩ := zgd_s h
      refine z_lrem (pc := 87) hX g8 dX5_walks_87 ?_
      refine z_lconst (pc := 88) (a := 0) hX dX5_walks_88 (by decide +kernel) ?_
      obtain ⟨j108, hj108, h⟩ := zjn_s h (fun (j : Int → Option (Int × zM)) => ∀ (s108_0 : Int), j s108_0 = some (r0, m0) → zV X 8 m_ 108 [(0, .ref (ad 0)), (1, .int (zI a1)), (3, .int (zI a3)), (4, .long (zJ ((16807 * v4) % 2147483647))), (6, .int (zI v6))] [.int (zI s108_0)]) (fun s108_0 h => by
          refine z_istore (pc := 108) (lv' := [(7, .int (zI s108_0)), (0, .ref (ad 0)), (1, .int (zI a1)), (3, .int (zI a3)), (4, .long (zJ ((16807 * v4) % 2147483647))), (6, .int (zI v6))]) hX dX5_walks_108 (by decide) rfl ?_
          refine z_iload (pc := 110) hX 0 dX5_walks_110 rfl ?_
          obtain ⟨j127, hj127, h⟩ := zjn_s h (fun (j : Option (Int × zM)) => j = some (r0, m0) → zV X 8 m_ 127 [(0, .ref (ad 0)), (1, .int (zI a1)), (3, .int (zI a3)), (4, .long (zJ ((16807 * v4) % 2147483647))), (6, .int (zI v6))] []) (fun h => by
              refine z_aload_n (pc := 127) hX 0 dX5_walks_127 rfl rfl ?_
              refine z_get (pc := 128) (c := 0) (j := 1) (v := .ref (ad 11)) hX rfl zfl_RX5_16 (Nat.le_of_ble_eq_true rfl) (zMain_e (ca := ca) (f := m_ 0)) rfl dX5_walks_128 ?_
              obtain ⟨m9, hr9, h⟩ := zcl_s h
              refine z_callVv (pc := 131) (v := .null) (c := 11) hX [] [] (wX1_removeLast (ca := ca) hG (Or.inr rfl) hr9) rfl zmv_RX5_80 (zCat_lt (Or.inr rfl)) (zCat_e (ca := ca) (f := m_ 11) (Or.inr rfl)) rfl rfl ⟨rfl, rfl⟩ ⟨by decide, by decide⟩ (Nat.le_of_ble_eq_true rfl) dX5_walks_131 ?_
              refine z_goto (pc := 134) (tgt := 155) hX dX5_walks_134 (by decide) ?_
              refine z_iinc (pc := 155) (lv' := [(6, .int (zI (v6 + 1))), (0, .ref (ad 0)), (1, .int (zI a1)), (3, .int (zI a3)), (4, .long (zJ ((16807 * v4) % 2147483647)))]) hX 4 dX5_walks_155 rfl (by decide) rfl ?_
              refine z_goto (pc := 158) (tgt := 60) hX dX5_walks_158 (by decide) ?_
              refine z_sub [1, 2, 3, 4, 0] rfl ?_
              exact ih _ _ _ h
              )
          refine z_if_ne (pc := 112) (tgt := 127) hX dX5_walks_112 (by decide) (fun hc13 => ?_) (fun hc13 => ?_)
          · replace h := (if_neg hc13).symm.trans h
            refine z_sub [1, 2, 3, 4, 5] rfl ?_
            exact hj127 h
          · replace h := (if_pos hc13).symm.trans h
            refine z_aload_n (pc := 115) hX 1 dX5_walks_115 rfl rfl ?_
            refine z_get (pc := 116) (c := 0) (j := 1) (v := .ref (ad 11)) hX rfl zfl_RX5_16 (Nat.le_of_ble_eq_true rfl) (zMain_e (ca := ca) (f := m_ 0)) rfl dX5_walks_116 ?_
            refine z_get (pc := 119) (c := 11) (j := 9) (v := .int (zI (m_ 11 9))) hX rfl zfl_RX5_64 (zCat_lt (Or.inr rfl)) (zCat_e (ca := ca) (f := m_ 11) (Or.inr rfl)) rfl dX5_walks_119 ?_
            refine z_bipush (pc := 122) hX dX5_walks_122 (by decide +kernel) ?_
            refine z_icmp_ne (pc := 124) (tgt := 137) hX dX5_walks_124 (by decide) (fun hc12 => ?_) (fun hc12 => ?_)
            · replace h := (if_neg hc12).symm.trans h
              refine z_aload_n (pc := 137) hX 1 dX5_walks_137 rfl rfl ?_
              refine z_get (pc := 138) (c := 0) (j := 1) (v := .ref (ad 11)) hX rfl zfl_RX5_16 (Nat.le_of_ble_eq_true rfl) (zMain_e (ca := ca) (f := m_ 0)) rfl dX5_walks_138 ?_
              refine z_bipush (pc := 141) hX dX5_walks_141 (by decide +kernel) ?_
              refine z_lload (pc := 143) hX 4 dX5_walks_143 rfl ?_
              refine z_ldc2 (pc := 145) (n := 6) hX zk_RX5_209 (by decide +kernel) dX5_walks_145 ?_
              obtain ⟨g10, h⟩ := zgd_s h
              refine z_lrem (pc := 148) hX g10 dX5_walks_148 ?_
              refine z_l2i (pc := 149) hX dX5_walks_149 ?_
              refine z_iadd (pc := 150) hX dX5_walks_150 ?_
              obtain ⟨r11, m11, hr11, h⟩ := zcl2_s h
              refine z_callVr (pc := 151) (c := 11) hX [.int (zI (97 + (zw (((16807 * v4) % 2147483647) % 6))))] [] (wX1_add (ca := ca) hG (Or.inr rfl) hr11) rfl zmv_RX5_72 (zCat_lt (Or.inr rfl)) (zCat_e (ca := ca) (f := m_ 11) (Or.inr rfl)) rfl rfl ⟨rfl, rfl⟩ ⟨by decide, by decide⟩ (Nat.le_of_ble_eq_true rfl) dX5_walks_151 ?_
              refine z_pop (pc := 154) hX dX5_walks_154 rfl ?_
              refine z_iinc (pc := 155) (lv' := [(6, .int (zI (v6 + 1))), (7, .int (zI s108_0)), (0, .ref (ad 0)), (1, .int (zI a1)), (3, .int (zI a3)), (4, .long (zJ ((16807 * v4) % 2147483647)))]) hX 5 dX5_walks_155 rfl (by decide) rfl ?_
              refine z_goto (pc := 158) (tgt := 60) hX dX5_walks_158 (by decide) ?_
              refine z_sub [2, 3, 4, 5, 0] rfl ?_
              exact ih _ _ _ h
            · replace h := (if_pos hc12).symm.trans h
              refine z_sub [1, 2, 3, 4, 5] rfl ?_
              exact hj127 h
          )
      refine z_lcmp_ne (pc := 89) (tgt := 107) hX dX5_walks_89 dX5_walks_90 (by decide) (fun hc15 => ?_) (fun hc15 => ?_)
      · replace h := (if_neg hc15).symm.trans h
        refine z_iconst (pc := 107) hX dX5_walks_107 ?_
        refine z_sub [1, 2, 3, 0, 4] rfl ?_
        exact hj108 _ h
      · replace h := (if_pos hc15).symm.trans h
        refine z_aload_n (pc := 93) hX 1 dX5_walks_93 rfl rfl ?_
        refine z_get (pc := 94) (c := 0) (j := 1) (v := .ref (ad 11)) hX rfl zfl_RX5_16 (Nat.le_of_ble_eq_true rfl) (zMain_e (ca := ca) (f := m_ 0)) rfl dX5_walks_94 ?_
        refine z_get (pc := 97) (c := 11) (j := 9) (v := .int (zI (m_ 11 9))) hX rfl zfl_RX5_64 (zCat_lt (Or.inr rfl)) (zCat_e (ca := ca) (f := m_ 11) (Or.inr rfl)) rfl dX5_walks_97 ?_
        refine z_if_le (pc := 100) (tgt := 107) hX dX5_walks_100 (by decide) (fun hc14 => ?_) (fun hc14 => ?_)
        · replace h := (if_neg hc14).symm.trans h
          refine z_iconst (pc := 107) hX dX5_walks_107 ?_
          refine z_sub [1, 2, 3, 0, 4] rfl ?_
          exact hj108 _ h
        · replace h := (if_pos hc14).symm.trans h
          refine z_iconst (pc := 103) hX dX5_walks_103 ?_
          refine z_goto (pc := 104) (tgt := 108) hX dX5_walks_104 (by decide) ?_
          refine z_sub [1, 2, 3, 0, 4] rfl ?_
          exact hj108 _ h
set_option maxRecDepth 20000 in
set_option maxHeartbeats 4000000 in
theorem wX5_walks {l : Launch} {D : va_G} {ca : Nat → ClassId} {ad : Nat → Nat} (hG : zGok (zGC D ca ad)) {a1 : Int} {a2 : Int} {a3 : Int} {r0 : Int} {m0 : zM} {m : zM} (h : FX5_walks a1 a2 a3 m = some (r0, m0)) : zCt l (zGC D ca ad) yX5_walks cX5_walks 8 (some .int) rmX5_walks [.ref (ad 0), .int (zI a1), .int (zI a2), .int (zI a3)] m (some (.int (zI r0))) m0 := by
  unfold FX5_walks at h
  refine z_of (plainFor_of_name (by decide +kernel)) hG (Nat.le_of_ble_eq_true rfl) (fun X hX => ?_)
  show zV X 8 m 0 [(0, .ref (ad 0)), (1, .int (zI a1)), (2, .int (zI a2)), (3, .int (zI a3))] []
  refine z_iload_n (pc := 0) hX 1 dX5_walks_0 rfl rfl ?_
  refine z_iconst (pc := 1) hX dX5_walks_1 ?_
  refine z_bipush (pc := 2) hX dX5_walks_2 (by decide +kernel) ?_
  obtain ⟨r1, hr1, h⟩ := zcl_s h
  refine z_callSr (pc := 4) hX [.int (zI a1), .int (zI 0), .int (zI 60)] [] (wX5_within (ca := ca) hG  hr1) zms_RX5_129 rfl rfl ⟨rfl, rfl⟩ ⟨by decide, by decide⟩ (Nat.le_of_ble_eq_true rfl) dX5_walks_4 ?_
  refine z_if_eq (pc := 7) (tgt := 29) hX dX5_walks_7 (by decide) (fun hc20 => ?_) (fun hc20 => ?_)
  · replace h := (if_pos hc20).symm.trans h
    refine z_iconst (pc := 29) hX dX5_walks_29 ?_
    exact z_iret (pc := 30) hX rfl rfl (Prod.mk.inj (Option.some.inj h)).1 (Prod.mk.inj (Option.some.inj h)).2 dX5_walks_30
  · replace h := (if_neg hc20).symm.trans h
    refine z_iload_n (pc := 10) hX 2 dX5_walks_10 rfl rfl ?_
    refine z_iconst (pc := 11) hX dX5_walks_11 ?_
    refine z_ldc (pc := 12) (n := 999999) hX zk_RX5_200 (by decide +kernel) dX5_walks_12 ?_
    obtain ⟨r2, hr2, h⟩ := zcl_s h
    refine z_callSr (pc := 14) hX [.int (zI a2), .int (zI 1), .int (zI 999999)] [] (wX5_within (ca := ca) hG  hr2) zms_RX5_129 rfl rfl ⟨rfl, rfl⟩ ⟨by decide, by decide⟩ (Nat.le_of_ble_eq_true rfl) dX5_walks_14 ?_
    refine z_if_eq (pc := 17) (tgt := 29) hX dX5_walks_17 (by decide) (fun hc19 => ?_) (fun hc19 => ?_)
    · replace h := (if_pos hc19).symm.trans h
      refine z_iconst (pc := 29) hX dX5_walks_29 ?_
      exact z_iret (pc := 30) hX rfl rfl (Prod.mk.inj (Option.some.inj h)).1 (Prod.mk.inj (Option.some.inj h)).2 dX5_walks_30
    · replace h := (if_neg hc19).symm.trans h
      refine z_iload_n (pc := 20) hX 3 dX5_walks_20 rfl rfl ?_
      refine z_iconst (pc := 21) hX dX5_walks_21 ?_
      refine z_iconst (pc := 22) hX dX5_walks_22 ?_
      obtain ⟨r3, hr3, h⟩ := zcl_s h
      refine z_callSr (pc := 23) hX [.int (zI a3), .int (zI 0), .int (zI 1)] [] (wX5_within (ca := ca) hG  hr3) zms_RX5_129 rfl rfl ⟨rfl, rfl⟩ ⟨by decide, by decide⟩ (Nat.le_of_ble_eq_true rfl) dX5_walks_23 ?_
      refine z_if_ne (pc := 26) (tgt := 31) hX dX5_walks_26 (by decide) (fun hc18 => ?_) (fun hc18 => ?_)
      · replace h := (if_neg hc18).symm.trans h
        refine z_aload_n (pc := 31) hX 0 dX5_walks_31 rfl rfl ?_
        refine z_get (pc := 32) (c := 0) (j := 1) (v := .ref (ad 11)) hX rfl zfl_RX5_16 (Nat.le_of_ble_eq_true rfl) (zMain_e (ca := ca) (f := m 0)) rfl dX5_walks_32 ?_
        refine z_aload_n (pc := 35) hX 0 dX5_walks_35 rfl rfl ?_
        refine z_get (pc := 36) (c := 0) (j := 0) (v := .ref (ad 1)) hX rfl zfl_RX5_12 (Nat.le_of_ble_eq_true rfl) (zMain_e (ca := ca) (f := m 0)) rfl dX5_walks_36 ?_
        refine z_get (pc := 39) (c := 1) (j := 0) (v := .ref (ad 2)) hX rfl zfl_RX5_86 (zCat_lt (Or.inl rfl)) (zCat_e (ca := ca) (f := m 1) (Or.inl rfl)) rfl dX5_walks_39 ?_
        refine z_iconst (pc := 42) hX dX5_walks_42 ?_
        refine z_aload_n (pc := 43) hX 0 dX5_walks_43 rfl rfl ?_
        refine z_get (pc := 44) (c := 0) (j := 0) (v := .ref (ad 1)) hX rfl zfl_RX5_12 (Nat.le_of_ble_eq_true rfl) (zMain_e (ca := ca) (f := m 0)) rfl dX5_walks_44 ?_
        refine z_get (pc := 47) (c := 1) (j := 9) (v := .int (zI (m 1 9))) hX rfl zfl_RX5_64 (zCat_lt (Or.inl rfl)) (zCat_e (ca := ca) (f := m 1) (Or.inl rfl)) rfl dX5_walks_47 ?_
        obtain ⟨m4, hr4, h⟩ := zcl_s h
        refine z_callVv (pc := 50) (v := .null) (c := 11) hX [.ref (ad 2), .int (zI 0), .int (zI (m 1 9))] [] (wX1_load (ca := ca) hG (Or.inr rfl) (zCat_a1 (Or.inl rfl)) hr4) rfl zmv_RX5_141 (zCat_lt (Or.inr rfl)) (zCat_e (ca := ca) (f := m 11) (Or.inr rfl)) rfl rfl ⟨rfl, rfl⟩ ⟨by decide, by decide⟩ (Nat.le_of_ble_eq_true rfl) dX5_walks_50 ?_
        refine z_iload_n (pc := 53) hX 2 dX5_walks_53 rfl rfl ?_
        obtain ⟨g5, h⟩ := zgd_s h
        refine z_i2l (pc := 54) hX g5 dX5_walks_54 ?_
        refine z_lstore (pc := 55) (lv' := [(4, .long (zJ a2)), (0, .ref (ad 0)), (1, .int (zI a1)), (2, .int (zI a2)), (3, .int (zI a3))]) hX dX5_walks_55 (by decide) rfl ?_
        refine z_iconst (pc := 57) hX dX5_walks_57 ?_
        refine z_istore (pc := 58) (lv' := [(6, .int (zI 0)), (4, .long (zJ a2)), (0, .ref (ad 0)), (1, .int (zI a1)), (2, .int (zI a2)), (3, .int (zI a3))]) hX dX5_walks_58 (by decide) rfl ?_
        refine z_sub [2, 3, 5, 1, 0] rfl ?_
        refine wX5_walks_L60 hG  hX (fun y60_4 y60_6 m60_ h => ?_) _ _ _ _ h
        refine z_iload_n (pc := 161) hX 2 dX5_walks_161 rfl rfl ?_
        refine z_if_ne (pc := 162) (tgt := 175) hX dX5_walks_162 (by decide) (fun hc17 => ?_) (fun hc17 => ?_)
        · replace h := (if_neg hc17).symm.trans h
          refine z_aload_n (pc := 175) hX 0 dX5_walks_175 rfl rfl ?_
          refine z_get (pc := 176) (c := 0) (j := 1) (v := .ref (ad 11)) hX rfl zfl_RX5_16 (Nat.le_of_ble_eq_true rfl) (zMain_e (ca := ca) (f := m60_ 0)) rfl dX5_walks_176 ?_
          refine z_get (pc := 179) (c := 11) (j := 9) (v := .int (zI (m60_ 11 9))) hX rfl zfl_RX5_64 (zCat_lt (Or.inr rfl)) (zCat_e (ca := ca) (f := m60_ 11) (Or.inr rfl)) rfl dX5_walks_179 ?_
          exact z_iret (pc := 182) hX rfl rfl (Prod.mk.inj (Option.some.inj h)).1 (Prod.mk.inj (Option.some.inj h)).2 dX5_walks_182
        · replace h := (if_pos hc17).symm.trans h
          refine z_aload_n (pc := 165) hX 0 dX5_walks_165 rfl rfl ?_
          refine z_get (pc := 166) (c := 0) (j := 1) (v := .ref (ad 11)) hX rfl zfl_RX5_16 (Nat.le_of_ble_eq_true rfl) (zMain_e (ca := ca) (f := m60_ 0)) rfl dX5_walks_166 ?_
          refine z_get (pc := 169) (c := 11) (j := 10) (v := .int (zI (m60_ 11 10))) hX rfl zfl_RX5_148 (zCat_lt (Or.inr rfl)) (zCat_e (ca := ca) (f := m60_ 11) (Or.inr rfl)) rfl dX5_walks_169 ?_
          refine z_goto (pc := 172) (tgt := 182) hX dX5_walks_172 (by decide) ?_
          exact z_iret (pc := 182) hX rfl rfl (Prod.mk.inj (Option.some.inj h)).1 (Prod.mk.inj (Option.some.inj h)).2 dX5_walks_182
      · replace h := (if_pos hc18).symm.trans h
        refine z_iconst (pc := 29) hX dX5_walks_29 ?_
        exact z_iret (pc := 30) hX rfl rfl (Prod.mk.inj (Option.some.inj h)).1 (Prod.mk.inj (Option.some.inj h)).2 dX5_walks_30
def rmX6_within : Room := { frames := 0, cells := 0, slots := 0, locals := 0 }
set_option maxRecDepth 20000 in
set_option maxHeartbeats 4000000 in
theorem wX6_within {l : Launch} {D : va_G} {ca : Nat → ClassId} {ad : Nat → Nat} (hG : zGok (zGM D ca ad)) {a0 : Int} {a2 : Int} {a4 : Int} {r0 : Int} {m : zM} (h : FX6_within a0 a2 a4 = some r0) : zCt l (zGM D ca ad) yX6_within cX6_within 6 (some .boolean) rmX6_within [.long (zJ a0), .long (zJ a2), .long (zJ a4)] m (some (.int (zI r0))) m := by
  unfold FX6_within at h
  refine z_of (plainFor_of_name (by decide +kernel)) hG (Nat.le_of_ble_eq_true rfl) (fun X hX => ?_)
  show zV X 6 m 0 [(0, .long (zJ a0)), (2, .long (zJ a2)), (4, .long (zJ a4))] []
  refine z_lload_n (pc := 0) hX 0 dX6_within_0 rfl rfl ?_
  refine z_lload_n (pc := 1) hX 1 dX6_within_1 rfl rfl ?_
  refine z_lcmp_lt (pc := 2) (tgt := 17) hX dX6_within_2 dX6_within_3 (by decide) (fun hc2 => ?_) (fun hc2 => ?_)
  · replace h := (if_pos hc2).symm.trans h
    refine z_iconst (pc := 17) hX dX6_within_17 ?_
    exact z_zret (pc := 18) hX rfl rfl (Or.inl rfl) (Option.some.inj h) rfl dX6_within_18
  · replace h := (if_neg hc2).symm.trans h
    refine z_lload_n (pc := 6) hX 0 dX6_within_6 rfl rfl ?_
    refine z_lload (pc := 7) hX 2 dX6_within_7 rfl ?_
    refine z_lcmp_gt (pc := 9) (tgt := 17) hX dX6_within_9 dX6_within_10 (by decide) (fun hc1 => ?_) (fun hc1 => ?_)
    · replace h := (if_pos hc1).symm.trans h
      refine z_iconst (pc := 17) hX dX6_within_17 ?_
      exact z_zret (pc := 18) hX rfl rfl (Or.inl rfl) (Option.some.inj h) rfl dX6_within_18
    · replace h := (if_neg hc1).symm.trans h
      refine z_iconst (pc := 13) hX dX6_within_13 ?_
      refine z_goto (pc := 14) (tgt := 18) hX dX6_within_14 (by decide) ?_
      exact z_zret (pc := 18) hX rfl rfl (Or.inr rfl) (Option.some.inj h) rfl dX6_within_18
def rmX6_bring : Room := { frames := 0, cells := 0, slots := 0, locals := 0 }
set_option maxRecDepth 20000 in
set_option maxHeartbeats 4000000 in
theorem wX6_bring_L3 {X : zXT} {l : Launch} {D : va_G} {ca : Nat → ClassId} {ad : Nat → Nat} (hG : zGok (zGM D ca ad)) {c0 n0 : Nat} (h0 : zInts (zGM D ca ad) c0 n0) {a1 : Int} {c2 n2 : Nat} (h2 : zInts (zGM D ca ad) c2 n2) {a3 : Int} {a4 : Int}  {m0 : zM}  (hX : zC X l rmX6_bring (zGM D ca ad) none m0 cX6_bring 6 RX6 none) {k : Int → zM → Option (zM)} (hk : ∀ (v5 : Int) (m_ : zM), k v5 m_ = some m0 → zV X 6 m_ 28 [(0, .ref (ad c0)), (1, .int (zI a1)), (2, .ref (ad c2)), (3, .int (zI a3)), (4, .int (zI a4)), (5, .int (zI v5))] []) : ∀ (n : Nat) (v5 : Int) (m_ : zM), FX6_bring_L3 c0 n0 a1 c2 n2 a3 a4 k n v5 m_ = some m0 → zV X 6 m_ 3 [(0, .ref (ad c0)), (1, .int (zI a1)), (2, .ref (ad c2)), (3, .int (zI a3)), (4, .int (zI a4)), (5, .int (zI v5))] [] := by
  intro n
  induction n with
  | zero => intro v5 m_ h; cases h
  | succ n ih =>
    intro v5 m_ h
    replace h : FX6_bring_L3_B c0 n0 a1 c2 n2 a3 a4 k (FX6_bring_L3 c0 n0 a1 c2 n2 a3 a4 k n) v5 m_ = some m0 := h
    unfold FX6_bring_L3_B at h
    refine z_iload (pc := 3) hX 5 dX6_bring_3 rfl ?_
    refine z_iload (pc := 5) hX 4 dX6_bring_5 rfl ?_
    refine z_icmp_ge (pc := 7) (tgt := 28) hX dX6_bring_7 (by decide) (fun hc3 => ?_) (fun hc3 => ?_)
    · replace h := (if_neg hc3).symm.trans h
      exact hk _ _ h
    · replace h := (if_pos hc3).symm.trans h
      refine z_aload_n (pc := 10) hX 2 dX6_bring_10 rfl rfl ?_
      refine z_iload_n (pc := 11) hX 3 dX6_bring_11 rfl rfl ?_
      refine z_iload (pc := 12) hX 5 dX6_bring_12 rfl ?_
      refine z_iadd (pc := 14) hX dX6_bring_14 ?_
      refine z_aload_n (pc := 15) hX 0 dX6_bring_15 rfl rfl ?_
      refine z_iload_n (pc := 16) hX 1 dX6_bring_16 rfl rfl ?_
      refine z_iload (pc := 17) hX 5 dX6_bring_17 rfl ?_
      refine z_iadd (pc := 19) hX dX6_bring_19 ?_
      obtain ⟨x1, hx1, hi1, h⟩ := zrd_s h
      refine z_iald (pc := 20) (c := c0) hX h0 hi1 hx1 dX6_bring_20 ?_
      obtain ⟨m2, hm2, hi2, h⟩ := zwr_s h
      refine z_iast (pc := 21) (c := c2) hX h2 hi2 hm2 dX6_bring_21 ?_
      refine z_iinc (pc := 22) (lv' := [(5, .int (zI (v5 + 1))), (0, .ref (ad c0)), (1, .int (zI a1)), (2, .ref (ad c2)), (3, .int (zI a3)), (4, .int (zI a4))]) hX 5 dX6_bring_22 rfl (by decide) rfl ?_
      refine z_goto (pc := 25) (tgt := 3) hX dX6_bring_25 (by decide) ?_
      refine z_sub [1, 2, 3, 4, 5, 0] rfl ?_
      exact ih _ _ h
set_option maxRecDepth 20000 in
set_option maxHeartbeats 4000000 in
theorem wX6_bring {l : Launch} {D : va_G} {ca : Nat → ClassId} {ad : Nat → Nat} (hG : zGok (zGM D ca ad)) {c0 n0 : Nat} (h0 : zInts (zGM D ca ad) c0 n0) {a1 : Int} {c2 n2 : Nat} (h2 : zInts (zGM D ca ad) c2 n2) {a3 : Int} {a4 : Int} {m0 : zM} {m : zM} (h : FX6_bring c0 n0 a1 c2 n2 a3 a4 m = some m0) : zCt l (zGM D ca ad) yX6_bring cX6_bring 6 none rmX6_bring [.ref (ad c0), .int (zI a1), .ref (ad c2), .int (zI a3), .int (zI a4)] m none m0 := by
  unfold FX6_bring at h
  refine z_of (plainFor_of_name (by decide +kernel)) hG (Nat.le_of_ble_eq_true rfl) (fun X hX => ?_)
  show zV X 6 m 0 [(0, .ref (ad c0)), (1, .int (zI a1)), (2, .ref (ad c2)), (3, .int (zI a3)), (4, .int (zI a4))] []
  refine z_iconst (pc := 0) hX dX6_bring_0 ?_
  refine z_istore (pc := 1) (lv' := [(5, .int (zI 0)), (0, .ref (ad c0)), (1, .int (zI a1)), (2, .ref (ad c2)), (3, .int (zI a3)), (4, .int (zI a4))]) hX dX6_bring_1 (by decide) rfl ?_
  refine z_sub [1, 2, 3, 4, 5, 0] rfl ?_
  refine wX6_bring_L3 hG h0 h2 hX (fun y3_5 m3_ h => ?_) _ _ _ h
  exact z_vret (pc := 28) hX rfl rfl (Option.some.inj h) dX6_bring_28
def rmX6_back : Room := { frames := 1, cells := 0, slots := 0, locals := 25 }
set_option maxRecDepth 20000 in
set_option maxHeartbeats 4000000 in
theorem wX6_back {l : Launch} {D : va_G} {ca : Nat → ClassId} {ad : Nat → Nat} (hG : zGok (zGM D ca ad)) {a1 : Int} {r0 : Int} {m0 : zM} {m : zM} (h : FX6_back a1 m = some (r0, m0)) : zCt l (zGM D ca ad) yX6_back cX6_back 2 (some .int) rmX6_back [.ref (ad 0), .int (zI a1)] m (some (.int (zI r0))) m0 := by
  unfold FX6_back at h
  refine z_of (plainFor_of_name (by decide +kernel)) hG (Nat.le_of_ble_eq_true rfl) (fun X hX => ?_)
  show zV X 2 m 0 [(0, .ref (ad 0)), (1, .int (zI a1))] []
  refine z_iload_n (pc := 0) hX 1 dX6_back_0 rfl rfl ?_
  obtain ⟨g1, h⟩ := zgd_s h
  refine z_i2l (pc := 1) hX g1 dX6_back_1 ?_
  refine z_lconst (pc := 2) (a := 0) hX dX6_back_2 (by decide +kernel) ?_
  refine z_lconst (pc := 3) (a := 1) hX dX6_back_3 (by decide +kernel) ?_
  obtain ⟨r2, hr2, h⟩ := zcl_s h
  refine z_callSr (pc := 4) hX [.long (zJ a1), .long (zJ 0), .long (zJ 1)] [] (wX6_within (ca := ca) hG  hr2) zms_RX6_90 rfl rfl ⟨rfl, rfl⟩ ⟨by decide, by decide⟩ (Nat.le_of_ble_eq_true rfl) dX6_back_4 ?_
  refine z_if_ne (pc := 7) (tgt := 12) hX dX6_back_7 (by decide) (fun hc10 => ?_) (fun hc10 => ?_)
  · replace h := (if_neg hc10).symm.trans h
    refine z_aload_n (pc := 12) hX 0 dX6_back_12 rfl rfl ?_
    refine z_get (pc := 13) (c := 0) (j := 5) (v := .ref (ad 4)) hX rfl zfl_RX6_19 (Nat.le_of_ble_eq_true rfl) (zMod_e (ca := ca) (f := m 0)) rfl dX6_back_13 ?_
    refine z_iload_n (pc := 16) hX 1 dX6_back_16 rfl rfl ?_
    obtain ⟨x3, hx3, hi3, h⟩ := zrd_s h
    refine z_iald (pc := 17) (c := 4) hX zMi4 hi3 hx3 dX6_back_17 ?_
    refine z_if_ge (pc := 18) (tgt := 24) hX dX6_back_18 (by decide) (fun hc9 => ?_) (fun hc9 => ?_)
    · replace h := (if_neg hc9).symm.trans h
      refine z_aload_n (pc := 24) hX 0 dX6_back_24 rfl rfl ?_
      refine z_get (pc := 25) (c := 0) (j := 4) (v := .ref (ad 3)) hX rfl zfl_RX6_16 (Nat.le_of_ble_eq_true rfl) (zMod_e (ca := ca) (f := m 0)) rfl dX6_back_25 ?_
      refine z_bipush (pc := 28) hX dX6_back_28 (by decide +kernel) ?_
      refine z_iload_n (pc := 30) hX 1 dX6_back_30 rfl rfl ?_
      refine z_imul (pc := 31) hX dX6_back_31 ?_
      refine z_aload_n (pc := 32) hX 0 dX6_back_32 rfl rfl ?_
      refine z_get (pc := 33) (c := 0) (j := 1) (v := .ref (ad 1)) hX rfl zfl_RX6_7 (Nat.le_of_ble_eq_true rfl) (zMod_e (ca := ca) (f := m 0)) rfl dX6_back_33 ?_
      refine z_iconst (pc := 36) hX dX6_back_36 ?_
      refine z_aload_n (pc := 37) hX 0 dX6_back_37 rfl rfl ?_
      refine z_get (pc := 38) (c := 0) (j := 5) (v := .ref (ad 4)) hX rfl zfl_RX6_19 (Nat.le_of_ble_eq_true rfl) (zMod_e (ca := ca) (f := m 0)) rfl dX6_back_38 ?_
      refine z_iload_n (pc := 41) hX 1 dX6_back_41 rfl rfl ?_
      obtain ⟨x4, hx4, hi4, h⟩ := zrd_s h
      refine z_iald (pc := 42) (c := 4) hX zMi4 hi4 hx4 dX6_back_42 ?_
      obtain ⟨m5, hr5, h⟩ := zcl_s h
      refine z_callSv (pc := 43) (v := .null) hX [.ref (ad 3), .int (zI (48 * a1)), .ref (ad 1), .int (zI 0), .int (zI x4)] [] (wX6_bring (ca := ca) hG zMi3 zMi1 hr5) zms_RX6_97 rfl rfl ⟨rfl, rfl⟩ ⟨by decide, by decide⟩ (Nat.le_of_ble_eq_true rfl) dX6_back_43 ?_
      refine z_aload_n (pc := 46) hX 0 dX6_back_46 rfl rfl ?_
      refine z_aload_n (pc := 47) hX 0 dX6_back_47 rfl rfl ?_
      refine z_get (pc := 48) (c := 0) (j := 5) (v := .ref (ad 4)) hX rfl zfl_RX6_19 (Nat.le_of_ble_eq_true rfl) (zMod_e (ca := ca) (f := m5 0)) rfl dX6_back_48 ?_
      refine z_iload_n (pc := 51) hX 1 dX6_back_51 rfl rfl ?_
      obtain ⟨x6, hx6, hi6, h⟩ := zrd_s h
      refine z_iald (pc := 52) (c := 4) hX zMi4 hi6 hx6 dX6_back_52 ?_
      obtain ⟨m7, hm7, h⟩ := zpf_s h
      refine z_put (pc := 53) (c := 0) (j := 0) hX rfl zfl_RX6_69 zfi_6_0 (Nat.le_of_ble_eq_true rfl) (zMod_e (ca := ca) (f := m5 0)) (Nat.le_of_ble_eq_true rfl) (zMod_p0 (ca := ca)) hm7 dX6_back_53 ?_
      refine z_aload_n (pc := 56) hX 0 dX6_back_56 rfl rfl ?_
      refine z_iconst (pc := 57) hX dX6_back_57 ?_
      obtain ⟨m8, hm8, h⟩ := zpf_s h
      refine z_put (pc := 58) (c := 0) (j := 2) hX rfl zfl_RX6_94 zfi_6_2 (Nat.le_of_ble_eq_true rfl) (zMod_e (ca := ca) (f := m7 0)) (Nat.le_of_ble_eq_true rfl) (zMod_p2 (ca := ca)) hm8 dX6_back_58 ?_
      refine z_aload_n (pc := 61) hX 0 dX6_back_61 rfl rfl ?_
      refine z_get (pc := 62) (c := 0) (j := 0) (v := .int (zI (m8 0 0))) hX rfl zfl_RX6_69 (Nat.le_of_ble_eq_true rfl) (zMod_e (ca := ca) (f := m8 0)) rfl dX6_back_62 ?_
      exact z_iret (pc := 65) hX rfl rfl (Prod.mk.inj (Option.some.inj h)).1 (Prod.mk.inj (Option.some.inj h)).2 dX6_back_65
    · replace h := (if_pos hc9).symm.trans h
      refine z_bipush (pc := 21) hX dX6_back_21 (by decide +kernel) ?_
      exact z_iret (pc := 23) hX rfl rfl (Prod.mk.inj (Option.some.inj h)).1 (Prod.mk.inj (Option.some.inj h)).2 dX6_back_23
  · replace h := (if_pos hc10).symm.trans h
    refine z_iconst (pc := 10) hX dX6_back_10 ?_
    exact z_iret (pc := 11) hX rfl rfl (Prod.mk.inj (Option.some.inj h)).1 (Prod.mk.inj (Option.some.inj h)).2 dX6_back_11
def rmX6_isLetter : Room := { frames := 1, cells := 0, slots := 0, locals := 25 }
set_option maxRecDepth 20000 in
set_option maxHeartbeats 4000000 in
theorem wX6_isLetter {l : Launch} {D : va_G} {ca : Nat → ClassId} {ad : Nat → Nat} (hG : zGok (zGM D ca ad)) {a0 : Int} {r0 : Int} {m : zM} (h : FX6_isLetter a0 = some r0) : zCt l (zGM D ca ad) yX6_isLetter cX6_isLetter 1 (some .boolean) rmX6_isLetter [.int (zI a0)] m (some (.int (zI r0))) m := by
  unfold FX6_isLetter at h
  refine z_of (plainFor_of_name (by decide +kernel)) hG (Nat.le_of_ble_eq_true rfl) (fun X hX => ?_)
  show zV X 1 m 0 [(0, .int (zI a0))] []
  refine z_iload_n (pc := 0) hX 0 dX6_isLetter_0 rfl rfl ?_
  obtain ⟨g1, h⟩ := zgd_s h
  refine z_i2l (pc := 1) hX g1 dX6_isLetter_1 ?_
  refine z_ldc2 (pc := 2) (n := 97) hX zk_RX6_86 (by decide +kernel) dX6_isLetter_2 ?_
  refine z_ldc2 (pc := 5) (n := 102) hX zk_RX6_88 (by decide +kernel) dX6_isLetter_5 ?_
  obtain ⟨r2, hr2, h⟩ := zcl_s h
  refine z_callSr (pc := 8) hX [.long (zJ a0), .long (zJ 97), .long (zJ 102)] [] (wX6_within (ca := ca) hG  hr2) zms_RX6_90 rfl rfl ⟨rfl, rfl⟩ ⟨by decide, by decide⟩ (Nat.le_of_ble_eq_true rfl) dX6_isLetter_8 ?_
  obtain ⟨g3, h⟩ := zgd_s h
  exact z_zret (pc := 11) hX rfl rfl g3 (Option.some.inj h) rfl dX6_isLetter_11
def rmX6_note : Room := { frames := 1, cells := 0, slots := 0, locals := 25 }
set_option maxRecDepth 20000 in
set_option maxHeartbeats 4000000 in
theorem wX6_note {l : Launch} {D : va_G} {ca : Nat → ClassId} {ad : Nat → Nat} (hG : zGok (zGM D ca ad)) {a1 : Int} {m0 : zM} {m : zM} (h : FX6_note a1 m = some m0) : zCt l (zGM D ca ad) yX6_note cX6_note 2 none rmX6_note [.ref (ad 0), .int (zI a1)] m none m0 := by
  unfold FX6_note at h
  refine z_of (plainFor_of_name (by decide +kernel)) hG (Nat.le_of_ble_eq_true rfl) (fun X hX => ?_)
  show zV X 2 m 0 [(0, .ref (ad 0)), (1, .int (zI a1))] []
  refine z_aload_n (pc := 0) hX 0 dX6_note_0 rfl rfl ?_
  refine z_get (pc := 1) (c := 0) (j := 2) (v := .int (zI (m 0 2))) hX rfl zfl_RX6_94 (Nat.le_of_ble_eq_true rfl) (zMod_e (ca := ca) (f := m 0)) rfl dX6_note_1 ?_
  refine z_bipush (pc := 4) hX dX6_note_4 (by decide +kernel) ?_
  obtain ⟨j34, hj34, h⟩ := zjn_s h (fun (j : zM → Option (zM)) => ∀ (mj34 : zM), j mj34 = some m0 → zV X 2 mj34 34 [(0, .ref (ad 0)), (1, .int (zI a1))] []) (fun mj34 h => by
      refine z_aload_n (pc := 34) hX 0 dX6_note_34 rfl rfl ?_
      refine z_get (pc := 35) (c := 0) (j := 3) (v := .ref (ad 2)) hX rfl zfl_RX6_13 (Nat.le_of_ble_eq_true rfl) (zMod_e (ca := ca) (f := mj34 0)) rfl dX6_note_35 ?_
      refine z_aload_n (pc := 38) hX 0 dX6_note_38 rfl rfl ?_
      refine z_get (pc := 39) (c := 0) (j := 2) (v := .int (zI (mj34 0 2))) hX rfl zfl_RX6_94 (Nat.le_of_ble_eq_true rfl) (zMod_e (ca := ca) (f := mj34 0)) rfl dX6_note_39 ?_
      refine z_iload_n (pc := 42) hX 1 dX6_note_42 rfl rfl ?_
      obtain ⟨m1, hm1, hi1, h⟩ := zwr_s h
      refine z_iast (pc := 43) (c := 2) hX zMi2 hi1 hm1 dX6_note_43 ?_
      refine z_aload_n (pc := 44) hX 0 dX6_note_44 rfl rfl ?_
      refine z_dup (pc := 45) hX dX6_note_45 rfl ?_
      refine z_get (pc := 46) (c := 0) (j := 2) (v := .int (zI (m1 0 2))) hX rfl zfl_RX6_94 (Nat.le_of_ble_eq_true rfl) (zMod_e (ca := ca) (f := m1 0)) rfl dX6_note_46 ?_
      refine z_iconst (pc := 49) hX dX6_note_49 ?_
      refine z_iadd (pc := 50) hX dX6_note_50 ?_
      obtain ⟨m2, hm2, h⟩ := zpf_s h
      refine z_put (pc := 51) (c := 0) (j := 2) hX rfl zfl_RX6_94 zfi_6_2 (Nat.le_of_ble_eq_true rfl) (zMod_e (ca := ca) (f := m1 0)) (Nat.le_of_ble_eq_true rfl) (zMod_p2 (ca := ca)) hm2 dX6_note_51 ?_
      exact z_vret (pc := 54) hX rfl rfl (Option.some.inj h) dX6_note_54
      )
  refine z_icmp_ne (pc := 6) (tgt := 34) hX dX6_note_6 (by decide) (fun hc5 => ?_) (fun hc5 => ?_)
  · replace h := (if_neg hc5).symm.trans h
    exact hj34 _ h
  · replace h := (if_pos hc5).symm.trans h
    refine z_aload_n (pc := 9) hX 0 dX6_note_9 rfl rfl ?_
    refine z_get (pc := 10) (c := 0) (j := 3) (v := .ref (ad 2)) hX rfl zfl_RX6_13 (Nat.le_of_ble_eq_true rfl) (zMod_e (ca := ca) (f := m 0)) rfl dX6_note_10 ?_
    refine z_iconst (pc := 13) hX dX6_note_13 ?_
    refine z_aload_n (pc := 14) hX 0 dX6_note_14 rfl rfl ?_
    refine z_get (pc := 15) (c := 0) (j := 3) (v := .ref (ad 2)) hX rfl zfl_RX6_13 (Nat.le_of_ble_eq_true rfl) (zMod_e (ca := ca) (f := m 0)) rfl dX6_note_15 ?_
    refine z_iconst (pc := 18) hX dX6_note_18 ?_
    refine z_bipush (pc := 19) hX dX6_note_19 (by decide +kernel) ?_
    obtain ⟨m3, hr3, h⟩ := zcl_s h
    refine z_callSv (pc := 21) (v := .null) hX [.ref (ad 2), .int (zI 1), .ref (ad 2), .int (zI 0), .int (zI 23)] [] (wX6_bring (ca := ca) hG zMi2 zMi2 hr3) zms_RX6_97 rfl rfl ⟨rfl, rfl⟩ ⟨by decide, by decide⟩ (Nat.le_of_ble_eq_true rfl) dX6_note_21 ?_
    refine z_aload_n (pc := 24) hX 0 dX6_note_24 rfl rfl ?_
    refine z_dup (pc := 25) hX dX6_note_25 rfl ?_
    refine z_get (pc := 26) (c := 0) (j := 2) (v := .int (zI (m3 0 2))) hX rfl zfl_RX6_94 (Nat.le_of_ble_eq_true rfl) (zMod_e (ca := ca) (f := m3 0)) rfl dX6_note_26 ?_
    refine z_iconst (pc := 29) hX dX6_note_29 ?_
    refine z_isub (pc := 30) hX dX6_note_30 ?_
    obtain ⟨m4, hm4, h⟩ := zpf_s h
    refine z_put (pc := 31) (c := 0) (j := 2) hX rfl zfl_RX6_94 zfi_6_2 (Nat.le_of_ble_eq_true rfl) (zMod_e (ca := ca) (f := m3 0)) (Nat.le_of_ble_eq_true rfl) (zMod_p2 (ca := ca)) hm4 dX6_note_31 ?_
    exact hj34 _ h
def rmX6_change : Room := { frames := 2, cells := 0, slots := 0, locals := 46 }
set_option maxRecDepth 20000 in
set_option maxHeartbeats 4000000 in
theorem wX6_change {l : Launch} {D : va_G} {ca : Nat → ClassId} {ad : Nat → Nat} (hG : zGok (zGM D ca ad)) {a1 : Int} {a2 : Int} {r0 : Int} {m0 : zM} {m : zM} (h : FX6_change a1 a2 m = some (r0, m0)) : zCt l (zGM D ca ad) yX6_change cX6_change 4 (some .int) rmX6_change [.ref (ad 0), .int (zI a1), .int (zI a2)] m (some (.int (zI r0))) m0 := by
  unfold FX6_change at h
  refine z_of (plainFor_of_name (by decide +kernel)) hG (Nat.le_of_ble_eq_true rfl) (fun X hX => ?_)
  show zV X 4 m 0 [(0, .ref (ad 0)), (1, .int (zI a1)), (2, .int (zI a2))] []
  refine z_iload_n (pc := 0) hX 1 dX6_change_0 rfl rfl ?_
  obtain ⟨g1, h⟩ := zgd_s h
  refine z_i2l (pc := 1) hX g1 dX6_change_1 ?_
  refine z_lconst (pc := 2) (a := 0) hX dX6_change_2 (by decide +kernel) ?_
  refine z_aload_n (pc := 3) hX 0 dX6_change_3 rfl rfl ?_
  refine z_get (pc := 4) (c := 0) (j := 0) (v := .int (zI (m 0 0))) hX rfl zfl_RX6_69 (Nat.le_of_ble_eq_true rfl) (zMod_e (ca := ca) (f := m 0)) rfl dX6_change_4 ?_
  refine z_iconst (pc := 7) hX dX6_change_7 ?_
  refine z_isub (pc := 8) hX dX6_change_8 ?_
  obtain ⟨g2, h⟩ := zgd_s h
  refine z_i2l (pc := 9) hX g2 dX6_change_9 ?_
  obtain ⟨r3, hr3, h⟩ := zcl_s h
  refine z_callSr (pc := 10) hX [.long (zJ a1), .long (zJ 0), .long (zJ ((m 0 0) - 1))] [] (wX6_within (ca := ca) hG  hr3) zms_RX6_90 rfl rfl ⟨rfl, rfl⟩ ⟨by decide, by decide⟩ (Nat.le_of_ble_eq_true rfl) dX6_change_10 ?_
  refine z_if_eq (pc := 13) (tgt := 23) hX dX6_change_13 (by decide) (fun hc10 => ?_) (fun hc10 => ?_)
  · replace h := (if_pos hc10).symm.trans h
    refine z_iconst (pc := 23) hX dX6_change_23 ?_
    exact z_iret (pc := 24) hX rfl rfl (Prod.mk.inj (Option.some.inj h)).1 (Prod.mk.inj (Option.some.inj h)).2 dX6_change_24
  · replace h := (if_neg hc10).symm.trans h
    refine z_iload_n (pc := 16) hX 2 dX6_change_16 rfl rfl ?_
    obtain ⟨r4, hr4, h⟩ := zcl_s h
    refine z_callSr (pc := 17) hX [.int (zI a2)] [] (wX6_isLetter (ca := ca) hG  hr4) zms_RX6_101 rfl rfl ⟨rfl, rfl⟩ ⟨by decide, by decide⟩ (Nat.le_of_ble_eq_true rfl) dX6_change_17 ?_
    refine z_if_ne (pc := 20) (tgt := 25) hX dX6_change_20 (by decide) (fun hc9 => ?_) (fun hc9 => ?_)
    · replace h := (if_neg hc9).symm.trans h
      refine z_aload_n (pc := 25) hX 0 dX6_change_25 rfl rfl ?_
      refine z_get (pc := 26) (c := 0) (j := 1) (v := .ref (ad 1)) hX rfl zfl_RX6_7 (Nat.le_of_ble_eq_true rfl) (zMod_e (ca := ca) (f := m 0)) rfl dX6_change_26 ?_
      refine z_iload_n (pc := 29) hX 1 dX6_change_29 rfl rfl ?_
      obtain ⟨x5, hx5, hi5, h⟩ := zrd_s h
      refine z_iald (pc := 30) (c := 1) hX zMi1 hi5 hx5 dX6_change_30 ?_
      refine z_istore_n (pc := 31) (lv' := [(3, .int (zI x5)), (0, .ref (ad 0)), (1, .int (zI a1)), (2, .int (zI a2))]) hX dX6_change_31 rfl (by decide) rfl ?_
      refine z_iload_n (pc := 32) hX 0 dX6_change_32 rfl rfl ?_
      refine z_iload_n (pc := 33) hX 3 dX6_change_33 rfl rfl ?_
      refine z_bipush (pc := 34) hX dX6_change_34 (by decide +kernel) ?_
      refine z_isub (pc := 36) hX dX6_change_36 ?_
      refine z_icmp_ne (pc := 37) (tgt := 43) hX dX6_change_37 (by decide) (fun hc8 => ?_) (fun hc8 => ?_)
      · replace h := (if_neg hc8).symm.trans h
        refine z_aload_n (pc := 43) hX 1 dX6_change_43 rfl rfl ?_
        refine z_bipush (pc := 44) hX dX6_change_44 (by decide +kernel) ?_
        refine z_bipush (pc := 46) hX dX6_change_46 (by decide +kernel) ?_
        refine z_iload_n (pc := 48) hX 2 dX6_change_48 rfl rfl ?_
        refine z_imul (pc := 49) hX dX6_change_49 ?_
        refine z_iadd (pc := 50) hX dX6_change_50 ?_
        refine z_iload_n (pc := 51) hX 0 dX6_change_51 rfl rfl ?_
        refine z_iadd (pc := 52) hX dX6_change_52 ?_
        obtain ⟨m6, hr6, h⟩ := zcl_s h
        refine z_callVv (pc := 53) (v := .null) (c := 0) hX [.int (zI ((100 + (10 * a1)) + x5))] [] (wX6_note (ca := ca) hG  hr6) rfl zmv_RX6_104 (Nat.le_of_ble_eq_true rfl) (zMod_e (ca := ca) (f := m 0)) rfl rfl ⟨rfl, rfl⟩ ⟨by decide, by decide⟩ (Nat.le_of_ble_eq_true rfl) dX6_change_53 ?_
        refine z_aload_n (pc := 56) hX 1 dX6_change_56 rfl rfl ?_
        refine z_get (pc := 57) (c := 0) (j := 1) (v := .ref (ad 1)) hX rfl zfl_RX6_7 (Nat.le_of_ble_eq_true rfl) (zMod_e (ca := ca) (f := m6 0)) rfl dX6_change_57 ?_
        refine z_iload_n (pc := 60) hX 2 dX6_change_60 rfl rfl ?_
        refine z_iload_n (pc := 61) hX 3 dX6_change_61 rfl rfl ?_
        refine z_bipush (pc := 62) hX dX6_change_62 (by decide +kernel) ?_
        refine z_isub (pc := 64) hX dX6_change_64 ?_
        obtain ⟨m7, hm7, hi7, h⟩ := zwr_s h
        refine z_iast (pc := 65) (c := 1) hX zMi1 hi7 hm7 dX6_change_65 ?_
        refine z_bipush (pc := 66) hX dX6_change_66 (by decide +kernel) ?_
        refine z_iload_n (pc := 68) hX 0 dX6_change_68 rfl rfl ?_
        refine z_iadd (pc := 69) hX dX6_change_69 ?_
        exact z_iret (pc := 70) hX rfl rfl (Prod.mk.inj (Option.some.inj h)).1 (Prod.mk.inj (Option.some.inj h)).2 dX6_change_70
      · replace h := (if_pos hc8).symm.trans h
        refine z_bipush (pc := 40) hX dX6_change_40 (by decide +kernel) ?_
        exact z_iret (pc := 42) hX rfl rfl (Prod.mk.inj (Option.some.inj h)).1 (Prod.mk.inj (Option.some.inj h)).2 dX6_change_42
    · replace h := (if_pos hc9).symm.trans h
      refine z_iconst (pc := 23) hX dX6_change_23 ?_
      exact z_iret (pc := 24) hX rfl rfl (Prod.mk.inj (Option.some.inj h)).1 (Prod.mk.inj (Option.some.inj h)).2 dX6_change_24
def rmX6_clear : Room := { frames := 0, cells := 0, slots := 0, locals := 0 }
set_option maxRecDepth 20000 in
set_option maxHeartbeats 4000000 in
theorem wX6_clear {l : Launch} {D : va_G} {ca : Nat → ClassId} {ad : Nat → Nat} (hG : zGok (zGM D ca ad))  {r0 : Int} {m0 : zM} {m : zM} (h : FX6_clear m = some (r0, m0)) : zCt l (zGM D ca ad) yX6_clear cX6_clear 2 (some .int) rmX6_clear [.ref (ad 0)] m (some (.int (zI r0))) m0 := by
  unfold FX6_clear at h
  refine z_of (plainFor_of_name (by decide +kernel)) hG (Nat.le_of_ble_eq_true rfl) (fun X hX => ?_)
  show zV X 2 m 0 [(0, .ref (ad 0))] []
  refine z_aload_n (pc := 0) hX 0 dX6_clear_0 rfl rfl ?_
  refine z_get (pc := 1) (c := 0) (j := 6) (v := .int (zI (m 0 6))) hX rfl zfl_RX6_168 (Nat.le_of_ble_eq_true rfl) (zMod_e (ca := ca) (f := m 0)) rfl dX6_clear_1 ?_
  refine z_istore_n (pc := 4) (lv' := [(1, .int (zI (m 0 6))), (0, .ref (ad 0))]) hX dX6_clear_4 rfl (by decide) rfl ?_
  refine z_aload_n (pc := 5) hX 1 dX6_clear_5 rfl rfl ?_
  refine z_iconst (pc := 6) hX dX6_clear_6 ?_
  obtain ⟨m1, hm1, h⟩ := zpf_s h
  refine z_put (pc := 7) (c := 0) (j := 6) hX rfl zfl_RX6_168 zfi_6_6 (Nat.le_of_ble_eq_true rfl) (zMod_e (ca := ca) (f := m 0)) (Nat.le_of_ble_eq_true rfl) (zMod_p6 (ca := ca)) hm1 dX6_clear_7 ?_
  refine z_iload_n (pc := 10) hX 0 dX6_clear_10 rfl rfl ?_
  exact z_iret (pc := 11) hX rfl rfl (Prod.mk.inj (Option.some.inj h)).1 (Prod.mk.inj (Option.some.inj h)).2 dX6_clear_11
def rmX6_isMirror : Room := { frames := 0, cells := 0, slots := 0, locals := 0 }
set_option maxRecDepth 20000 in
set_option maxHeartbeats 4000000 in
theorem wX6_isMirror_L5 {X : zXT} {l : Launch} {D : va_G} {ca : Nat → ClassId} {ad : Nat → Nat} (hG : zGok (zGM D ca ad)) {a1 : Int} {a2 : Int}  {r0 : Int} {m : zM}  (hX : zC X l rmX6_isMirror (zGM D ca ad) (some (.int (zI r0))) m cX6_isMirror 5 RX6 (some .boolean)) {k : Int → Int → Option (Int)} (hk : ∀ (v3 : Int) (v4 : Int), k v3 v4 = some r0 → zV X 5 m 54 [(0, .ref (ad 0)), (1, .int (zI a1)), (2, .int (zI a2)), (3, .int (zI v3)), (4, .int (zI v4))] []) : ∀ (n : Nat) (v3 : Int) (v4 : Int), FX6_isMirror_L5 a1 a2 m k n v3 v4 = some r0 → zV X 5 m 5 [(0, .ref (ad 0)), (1, .int (zI a1)), (2, .int (zI a2)), (3, .int (zI v3)), (4, .int (zI v4))] [] := by
  intro n
  induction n with
  | zero => intro v3 v4 h; cases h
  | succ n ih =>
    intro v3 v4 h
    replace h : FX6_isMirror_L5_B a1 a2 m k (FX6_isMirror_L5 a1 a2 m k n) v3 v4 = some r0 := h
    unfold FX6_isMirror_L5_B at h
    refine z_iload (pc := 5) hX 4 dX6_isMirror_5 rfl ?_
    refine z_iload_n (pc := 7) hX 2 dX6_isMirror_7 rfl rfl ?_
    refine z_iconst (pc := 8) hX dX6_isMirror_8 ?_
    obtain ⟨g1, h⟩ := zgd_s h
    refine z_idiv (pc := 9) hX g1 dX6_isMirror_9 ?_
    refine z_icmp_ge (pc := 10) (tgt := 54) hX dX6_isMirror_10 (by decide) (fun hc6 => ?_) (fun hc6 => ?_)
    · replace h := (if_neg hc6).symm.trans h
      exact hk _ _ h
    · replace h := (if_pos hc6).symm.trans h
      refine z_iload_n (pc := 13) hX 3 dX6_isMirror_13 rfl rfl ?_
      refine z_if_eq (pc := 14) (tgt := 54) hX dX6_isMirror_14 (by decide) (fun hc5 => ?_) (fun hc5 => ?_)
      · replace h := (if_pos hc5).symm.trans h
        exact hk _ _ h
      · replace h := (if_neg hc5).symm.trans h
        refine z_aload_n (pc := 17) hX 0 dX6_isMirror_17 rfl rfl ?_
        refine z_get (pc := 18) (c := 0) (j := 1) (v := .ref (ad 1)) hX rfl zfl_RX6_7 (Nat.le_of_ble_eq_true rfl) (zMod_e (ca := ca) (f := m 0)) rfl dX6_isMirror_18 ?_
        refine z_iload_n (pc := 21) hX 1 dX6_isMirror_21 rfl rfl ?_
        refine z_iload (pc := 22) hX 4 dX6_isMirror_22 rfl ?_
        refine z_iadd (pc := 24) hX dX6_isMirror_24 ?_
        obtain ⟨x2, hx2, hi2, h⟩ := zrd_s h
        refine z_iald (pc := 25) (c := 1) hX zMi1 hi2 hx2 dX6_isMirror_25 ?_
        refine z_aload_n (pc := 26) hX 0 dX6_isMirror_26 rfl rfl ?_
        refine z_get (pc := 27) (c := 0) (j := 1) (v := .ref (ad 1)) hX rfl zfl_RX6_7 (Nat.le_of_ble_eq_true rfl) (zMod_e (ca := ca) (f := m 0)) rfl dX6_isMirror_27 ?_
        refine z_iload_n (pc := 30) hX 1 dX6_isMirror_30 rfl rfl ?_
        refine z_iload_n (pc := 31) hX 2 dX6_isMirror_31 rfl rfl ?_
        refine z_iadd (pc := 32) hX dX6_isMirror_32 ?_
        refine z_iconst (pc := 33) hX dX6_isMirror_33 ?_
        refine z_isub (pc := 34) hX dX6_isMirror_34 ?_
        refine z_iload (pc := 35) hX 4 dX6_isMirror_35 rfl ?_
        refine z_isub (pc := 37) hX dX6_isMirror_37 ?_
        obtain ⟨x3, hx3, hi3, h⟩ := zrd_s h
        refine z_iald (pc := 38) (c := 1) hX zMi1 hi3 hx3 dX6_isMirror_38 ?_
        refine z_icmp_ne (pc := 39) (tgt := 46) hX dX6_isMirror_39 (by decide) (fun hc4 => ?_) (fun hc4 => ?_)
        · replace h := (if_neg hc4).symm.trans h
          refine z_iconst (pc := 46) hX dX6_isMirror_46 ?_
          refine z_istore_n (pc := 47) (lv' := [(3, .int (zI 0)), (0, .ref (ad 0)), (1, .int (zI a1)), (2, .int (zI a2)), (4, .int (zI v4))]) hX dX6_isMirror_47 rfl (by decide) rfl ?_
          refine z_iinc (pc := 48) (lv' := [(4, .int (zI (v4 + 1))), (3, .int (zI 0)), (0, .ref (ad 0)), (1, .int (zI a1)), (2, .int (zI a2))]) hX 4 dX6_isMirror_48 rfl (by decide) rfl ?_
          refine z_goto (pc := 51) (tgt := 5) hX dX6_isMirror_51 (by decide) ?_
          refine z_sub [2, 3, 4, 1, 0] rfl ?_
          exact ih _ _ h
        · replace h := (if_pos hc4).symm.trans h
          refine z_iconst (pc := 42) hX dX6_isMirror_42 ?_
          refine z_goto (pc := 43) (tgt := 47) hX dX6_isMirror_43 (by decide) ?_
          refine z_istore_n (pc := 47) (lv' := [(3, .int (zI 1)), (0, .ref (ad 0)), (1, .int (zI a1)), (2, .int (zI a2)), (4, .int (zI v4))]) hX dX6_isMirror_47 rfl (by decide) rfl ?_
          refine z_iinc (pc := 48) (lv' := [(4, .int (zI (v4 + 1))), (3, .int (zI 1)), (0, .ref (ad 0)), (1, .int (zI a1)), (2, .int (zI a2))]) hX 4 dX6_isMirror_48 rfl (by decide) rfl ?_
          refine z_goto (pc := 51) (tgt := 5) hX dX6_isMirror_51 (by decide) ?_
          refine z_sub [2, 3, 4, 1, 0] rfl ?_
          exact ih _ _ h
set_option maxRecDepth 20000 in
set_option maxHeartbeats 4000000 in
theorem wX6_isMirror {l : Launch} {D : va_G} {ca : Nat → ClassId} {ad : Nat → Nat} (hG : zGok (zGM D ca ad)) {a1 : Int} {a2 : Int} {r0 : Int} {m : zM} (h : FX6_isMirror a1 a2 m = some r0) : zCt l (zGM D ca ad) yX6_isMirror cX6_isMirror 5 (some .boolean) rmX6_isMirror [.ref (ad 0), .int (zI a1), .int (zI a2)] m (some (.int (zI r0))) m := by
  unfold FX6_isMirror at h
  refine z_of (plainFor_of_name (by decide +kernel)) hG (Nat.le_of_ble_eq_true rfl) (fun X hX => ?_)
  show zV X 5 m 0 [(0, .ref (ad 0)), (1, .int (zI a1)), (2, .int (zI a2))] []
  refine z_iconst (pc := 0) hX dX6_isMirror_0 ?_
  refine z_istore_n (pc := 1) (lv' := [(3, .int (zI 1)), (0, .ref (ad 0)), (1, .int (zI a1)), (2, .int (zI a2))]) hX dX6_isMirror_1 rfl (by decide) rfl ?_
  refine z_iconst (pc := 2) hX dX6_isMirror_2 ?_
  refine z_istore (pc := 3) (lv' := [(4, .int (zI 0)), (3, .int (zI 1)), (0, .ref (ad 0)), (1, .int (zI a1)), (2, .int (zI a2))]) hX dX6_isMirror_3 (by decide) rfl ?_
  refine z_sub [2, 3, 4, 1, 0] rfl ?_
  refine wX6_isMirror_L5 hG  hX (fun y5_3 y5_4 h => ?_) _ _ _ h
  refine z_iload_n (pc := 54) hX 3 dX6_isMirror_54 rfl rfl ?_
  obtain ⟨g7, h⟩ := zgd_s h
  exact z_zret (pc := 55) hX rfl rfl g7 (Option.some.inj h) rfl dX6_isMirror_55
def rmX6_endsBelow : Room := { frames := 1, cells := 0, slots := 0, locals := 24 }
set_option maxRecDepth 20000 in
set_option maxHeartbeats 4000000 in
theorem wX6_endsBelow_L19 {X : zXT} {l : Launch} {D : va_G} {ca : Nat → ClassId} {ad : Nat → Nat} (hG : zGok (zGM D ca ad)) {a1 : Int} {a2 : Int}  {r0 : Int} {m : zM}  (hX : zC X l rmX6_endsBelow (zGM D ca ad) (some (.int (zI r0))) m cX6_endsBelow 4 RX6 (some .int)) {k : Int → Option (Int)} (hk : ∀ (v3 : Int), k v3 = some r0 → zV X 4 m 42 [(0, .ref (ad 0)), (1, .int (zI a1)), (3, .int (zI v3))] []) : ∀ (n : Nat) (v3 : Int), FX6_endsBelow_L19 a1 a2 m k n v3 = some r0 → zV X 4 m 19 [(0, .ref (ad 0)), (1, .int (zI a1)), (3, .int (zI v3))] [] := by
  intro n
  induction n with
  | zero => intro v3 h; cases h
  | succ n ih =>
    intro v3 h
    replace h : FX6_endsBelow_L19_B a1 a2 m k (FX6_endsBelow_L19 a1 a2 m k n) v3 = some r0 := h
    unfold FX6_endsBelow_L19_B at h
    refine z_iload_n (pc := 19) hX 2 dX6_endsBelow_19 rfl rfl ?_
    refine z_if_le (pc := 20) (tgt := 42) hX dX6_endsBelow_20 (by decide) (fun hc3 => ?_) (fun hc3 => ?_)
    · replace h := (if_neg hc3).symm.trans h
      exact hk _ h
    · replace h := (if_pos hc3).symm.trans h
      refine z_aload_n (pc := 23) hX 0 dX6_endsBelow_23 rfl rfl ?_
      refine z_iload_n (pc := 24) hX 1 dX6_endsBelow_24 rfl rfl ?_
      refine z_iconst (pc := 25) hX dX6_endsBelow_25 ?_
      refine z_iadd (pc := 26) hX dX6_endsBelow_26 ?_
      refine z_iload_n (pc := 27) hX 2 dX6_endsBelow_27 rfl rfl ?_
      refine z_isub (pc := 28) hX dX6_endsBelow_28 ?_
      refine z_iload_n (pc := 29) hX 2 dX6_endsBelow_29 rfl rfl ?_
      obtain ⟨r1, hr1, h⟩ := zcl_s h
      refine z_callVr (pc := 30) (c := 0) hX [.int (zI ((a1 + 1) - v3)), .int (zI v3)] [] (wX6_isMirror (ca := ca) hG  hr1) rfl zmv_RX6_53 (Nat.le_of_ble_eq_true rfl) (zMod_e (ca := ca) (f := m 0)) rfl rfl ⟨rfl, rfl⟩ ⟨by decide, by decide⟩ (Nat.le_of_ble_eq_true rfl) dX6_endsBelow_30 ?_
      refine z_if_ne (pc := 33) (tgt := 42) hX dX6_endsBelow_33 (by decide) (fun hc2 => ?_) (fun hc2 => ?_)
      · replace h := (if_neg hc2).symm.trans h
        exact hk _ h
      · replace h := (if_pos hc2).symm.trans h
        refine z_iinc (pc := 36) (lv' := [(3, .int (zI (v3 + -1))), (0, .ref (ad 0)), (1, .int (zI a1))]) hX 2 dX6_endsBelow_36 rfl (by decide) rfl ?_
        refine z_goto (pc := 39) (tgt := 19) hX dX6_endsBelow_39 (by decide) ?_
        refine z_sub [1, 2, 0] rfl ?_
        exact ih _ h
set_option maxRecDepth 20000 in
set_option maxHeartbeats 4000000 in
theorem wX6_endsBelow {l : Launch} {D : va_G} {ca : Nat → ClassId} {ad : Nat → Nat} (hG : zGok (zGM D ca ad)) {a1 : Int} {a2 : Int} {r0 : Int} {m : zM} (h : FX6_endsBelow a1 a2 m = some r0) : zCt l (zGM D ca ad) yX6_endsBelow cX6_endsBelow 4 (some .int) rmX6_endsBelow [.ref (ad 0), .int (zI a1), .int (zI a2)] m (some (.int (zI r0))) m := by
  unfold FX6_endsBelow at h
  refine z_of (plainFor_of_name (by decide +kernel)) hG (Nat.le_of_ble_eq_true rfl) (fun X hX => ?_)
  show zV X 4 m 0 [(0, .ref (ad 0)), (1, .int (zI a1)), (2, .int (zI a2))] []
  refine z_iload_n (pc := 0) hX 2 dX6_endsBelow_0 rfl rfl ?_
  refine z_iconst (pc := 1) hX dX6_endsBelow_1 ?_
  refine z_isub (pc := 2) hX dX6_endsBelow_2 ?_
  refine z_iload_n (pc := 3) hX 1 dX6_endsBelow_3 rfl rfl ?_
  refine z_iconst (pc := 4) hX dX6_endsBelow_4 ?_
  refine z_iadd (pc := 5) hX dX6_endsBelow_5 ?_
  obtain ⟨j18, hj18, h⟩ := zjn_s h (fun (j : Int → Option (Int)) => ∀ (s18_0 : Int), j s18_0 = some r0 → zV X 4 m 18 [(0, .ref (ad 0)), (1, .int (zI a1))] [.int (zI s18_0)]) (fun s18_0 h => by
      refine z_istore_n (pc := 18) (lv' := [(3, .int (zI s18_0)), (0, .ref (ad 0)), (1, .int (zI a1))]) hX dX6_endsBelow_18 rfl (by decide) rfl ?_
      refine z_sub [1, 2, 0] rfl ?_
      refine wX6_endsBelow_L19 hG  hX (fun y19_3 h => ?_) _ _ h
      refine z_iload_n (pc := 42) hX 2 dX6_endsBelow_42 rfl rfl ?_
      exact z_iret (pc := 43) hX rfl rfl (Option.some.inj h) rfl dX6_endsBelow_43
      )
  refine z_icmp_ge (pc := 6) (tgt := 15) hX dX6_endsBelow_6 (by decide) (fun hc4 => ?_) (fun hc4 => ?_)
  · replace h := (if_neg hc4).symm.trans h
    refine z_iload_n (pc := 15) hX 1 dX6_endsBelow_15 rfl rfl ?_
    refine z_iconst (pc := 16) hX dX6_endsBelow_16 ?_
    refine z_iadd (pc := 17) hX dX6_endsBelow_17 ?_
    refine z_sub [0, 1] rfl ?_
    exact hj18 _ h
  · replace h := (if_pos hc4).symm.trans h
    refine z_iload_n (pc := 9) hX 2 dX6_endsBelow_9 rfl rfl ?_
    refine z_iconst (pc := 10) hX dX6_endsBelow_10 ?_
    refine z_isub (pc := 11) hX dX6_endsBelow_11 ?_
    refine z_goto (pc := 12) (tgt := 18) hX dX6_endsBelow_12 (by decide) ?_
    refine z_sub [0, 1] rfl ?_
    exact hj18 _ h
def rmX6_isSame : Room := { frames := 0, cells := 0, slots := 0, locals := 0 }
set_option maxRecDepth 20000 in
set_option maxHeartbeats 4000000 in
theorem wX6_isSame_L6 {X : zXT} {l : Launch} {D : va_G} {ca : Nat → ClassId} {ad : Nat → Nat} (hG : zGok (zGM D ca ad)) {a1 : Int} {a2 : Int} {a3 : Int}  {r0 : Int} {m : zM}  (hX : zC X l rmX6_isSame (zGM D ca ad) (some (.int (zI r0))) m cX6_isSame 6 RX6 (some .boolean)) {k : Int → Int → Option (Int)} (hk : ∀ (v4 : Int) (v5 : Int), k v4 v5 = some r0 → zV X 6 m 51 [(0, .ref (ad 0)), (1, .int (zI a1)), (2, .int (zI a2)), (3, .int (zI a3)), (4, .int (zI v4)), (5, .int (zI v5))] []) : ∀ (n : Nat) (v4 : Int) (v5 : Int), FX6_isSame_L6 a1 a2 a3 m k n v4 v5 = some r0 → zV X 6 m 6 [(0, .ref (ad 0)), (1, .int (zI a1)), (2, .int (zI a2)), (3, .int (zI a3)), (4, .int (zI v4)), (5, .int (zI v5))] [] := by
  intro n
  induction n with
  | zero => intro v4 v5 h; cases h
  | succ n ih =>
    intro v4 v5 h
    replace h : FX6_isSame_L6_B a1 a2 a3 m k (FX6_isSame_L6 a1 a2 a3 m k n) v4 v5 = some r0 := h
    unfold FX6_isSame_L6_B at h
    refine z_iload (pc := 6) hX 5 dX6_isSame_6 rfl ?_
    refine z_iload_n (pc := 8) hX 3 dX6_isSame_8 rfl rfl ?_
    refine z_icmp_ge (pc := 9) (tgt := 51) hX dX6_isSame_9 (by decide) (fun hc5 => ?_) (fun hc5 => ?_)
    · replace h := (if_neg hc5).symm.trans h
      exact hk _ _ h
    · replace h := (if_pos hc5).symm.trans h
      refine z_iload (pc := 12) hX 4 dX6_isSame_12 rfl ?_
      refine z_if_eq (pc := 14) (tgt := 51) hX dX6_isSame_14 (by decide) (fun hc4 => ?_) (fun hc4 => ?_)
      · replace h := (if_pos hc4).symm.trans h
        exact hk _ _ h
      · replace h := (if_neg hc4).symm.trans h
        refine z_aload_n (pc := 17) hX 0 dX6_isSame_17 rfl rfl ?_
        refine z_get (pc := 18) (c := 0) (j := 1) (v := .ref (ad 1)) hX rfl zfl_RX6_7 (Nat.le_of_ble_eq_true rfl) (zMod_e (ca := ca) (f := m 0)) rfl dX6_isSame_18 ?_
        refine z_iload_n (pc := 21) hX 1 dX6_isSame_21 rfl rfl ?_
        refine z_iload (pc := 22) hX 5 dX6_isSame_22 rfl ?_
        refine z_iadd (pc := 24) hX dX6_isSame_24 ?_
        obtain ⟨x1, hx1, hi1, h⟩ := zrd_s h
        refine z_iald (pc := 25) (c := 1) hX zMi1 hi1 hx1 dX6_isSame_25 ?_
        refine z_aload_n (pc := 26) hX 0 dX6_isSame_26 rfl rfl ?_
        refine z_get (pc := 27) (c := 0) (j := 1) (v := .ref (ad 1)) hX rfl zfl_RX6_7 (Nat.le_of_ble_eq_true rfl) (zMod_e (ca := ca) (f := m 0)) rfl dX6_isSame_27 ?_
        refine z_iload_n (pc := 30) hX 2 dX6_isSame_30 rfl rfl ?_
        refine z_iload (pc := 31) hX 5 dX6_isSame_31 rfl ?_
        refine z_iadd (pc := 33) hX dX6_isSame_33 ?_
        obtain ⟨x2, hx2, hi2, h⟩ := zrd_s h
        refine z_iald (pc := 34) (c := 1) hX zMi1 hi2 hx2 dX6_isSame_34 ?_
        refine z_icmp_ne (pc := 35) (tgt := 42) hX dX6_isSame_35 (by decide) (fun hc3 => ?_) (fun hc3 => ?_)
        · replace h := (if_neg hc3).symm.trans h
          refine z_iconst (pc := 42) hX dX6_isSame_42 ?_
          refine z_istore (pc := 43) (lv' := [(4, .int (zI 0)), (0, .ref (ad 0)), (1, .int (zI a1)), (2, .int (zI a2)), (3, .int (zI a3)), (5, .int (zI v5))]) hX dX6_isSame_43 (by decide) rfl ?_
          refine z_iinc (pc := 45) (lv' := [(5, .int (zI (v5 + 1))), (4, .int (zI 0)), (0, .ref (ad 0)), (1, .int (zI a1)), (2, .int (zI a2)), (3, .int (zI a3))]) hX 5 dX6_isSame_45 rfl (by decide) rfl ?_
          refine z_goto (pc := 48) (tgt := 6) hX dX6_isSame_48 (by decide) ?_
          refine z_sub [2, 3, 4, 5, 1, 0] rfl ?_
          exact ih _ _ h
        · replace h := (if_pos hc3).symm.trans h
          refine z_iconst (pc := 38) hX dX6_isSame_38 ?_
          refine z_goto (pc := 39) (tgt := 43) hX dX6_isSame_39 (by decide) ?_
          refine z_istore (pc := 43) (lv' := [(4, .int (zI 1)), (0, .ref (ad 0)), (1, .int (zI a1)), (2, .int (zI a2)), (3, .int (zI a3)), (5, .int (zI v5))]) hX dX6_isSame_43 (by decide) rfl ?_
          refine z_iinc (pc := 45) (lv' := [(5, .int (zI (v5 + 1))), (4, .int (zI 1)), (0, .ref (ad 0)), (1, .int (zI a1)), (2, .int (zI a2)), (3, .int (zI a3))]) hX 5 dX6_isSame_45 rfl (by decide) rfl ?_
          refine z_goto (pc := 48) (tgt := 6) hX dX6_isSame_48 (by decide) ?_
          refine z_sub [2, 3, 4, 5, 1, 0] rfl ?_
          exact ih _ _ h
set_option maxRecDepth 20000 in
set_option maxHeartbeats 4000000 in
theorem wX6_isSame {l : Launch} {D : va_G} {ca : Nat → ClassId} {ad : Nat → Nat} (hG : zGok (zGM D ca ad)) {a1 : Int} {a2 : Int} {a3 : Int} {r0 : Int} {m : zM} (h : FX6_isSame a1 a2 a3 m = some r0) : zCt l (zGM D ca ad) yX6_isSame cX6_isSame 6 (some .boolean) rmX6_isSame [.ref (ad 0), .int (zI a1), .int (zI a2), .int (zI a3)] m (some (.int (zI r0))) m := by
  unfold FX6_isSame at h
  refine z_of (plainFor_of_name (by decide +kernel)) hG (Nat.le_of_ble_eq_true rfl) (fun X hX => ?_)
  show zV X 6 m 0 [(0, .ref (ad 0)), (1, .int (zI a1)), (2, .int (zI a2)), (3, .int (zI a3))] []
  refine z_iconst (pc := 0) hX dX6_isSame_0 ?_
  refine z_istore (pc := 1) (lv' := [(4, .int (zI 1)), (0, .ref (ad 0)), (1, .int (zI a1)), (2, .int (zI a2)), (3, .int (zI a3))]) hX dX6_isSame_1 (by decide) rfl ?_
  refine z_iconst (pc := 3) hX dX6_isSame_3 ?_
  refine z_istore (pc := 4) (lv' := [(5, .int (zI 0)), (4, .int (zI 1)), (0, .ref (ad 0)), (1, .int (zI a1)), (2, .int (zI a2)), (3, .int (zI a3))]) hX dX6_isSame_4 (by decide) rfl ?_
  refine z_sub [2, 3, 4, 5, 1, 0] rfl ?_
  refine wX6_isSame_L6 hG  hX (fun y6_4 y6_5 h => ?_) _ _ _ h
  refine z_iload (pc := 51) hX 4 dX6_isSame_51 rfl ?_
  obtain ⟨g6, h⟩ := zgd_s h
  exact z_zret (pc := 53) hX rfl rfl g6 (Option.some.inj h) rfl dX6_isSame_53
def rmX6_isNew : Room := { frames := 2, cells := 0, slots := 0, locals := 47 }
set_option maxRecDepth 20000 in
set_option maxHeartbeats 4000000 in
theorem wX6_isNew_L20 {X : zXT} {l : Launch} {D : va_G} {ca : Nat → ClassId} {ad : Nat → Nat} (hG : zGok (zGM D ca ad)) {a1 : Int}  {r0 : Int} {m : zM} {k2 : Int} {k3 : Int} (hX : zC X l rmX6_isNew (zGM D ca ad) (some (.int (zI r0))) m cX6_isNew 6 RX6 (some .boolean)) {k : Int → Int → Option (Int)} (hk : ∀ (v4 : Int) (v5 : Int), k v4 v5 = some r0 → zV X 6 m 55 [(0, .ref (ad 0)), (2, .int (zI k2)), (3, .int (zI k3)), (4, .int (zI v4)), (5, .int (zI v5))] []) : ∀ (n : Nat) (v4 : Int) (v5 : Int), FX6_isNew_L20 a1 k2 k3 m k n v4 v5 = some r0 → zV X 6 m 20 [(0, .ref (ad 0)), (2, .int (zI k2)), (3, .int (zI k3)), (4, .int (zI v4)), (5, .int (zI v5))] [] := by
  intro n
  induction n with
  | zero => intro v4 v5 h; cases h
  | succ n ih =>
    intro v4 v5 h
    replace h : FX6_isNew_L20_B a1 k2 k3 m k (FX6_isNew_L20 a1 k2 k3 m k n) v4 v5 = some r0 := h
    unfold FX6_isNew_L20_B at h
    refine z_iload (pc := 20) hX 4 dX6_isNew_20 rfl ?_
    refine z_iload_n (pc := 22) hX 2 dX6_isNew_22 rfl rfl ?_
    refine z_icmp_ge (pc := 23) (tgt := 55) hX dX6_isNew_23 (by decide) (fun hc5 => ?_) (fun hc5 => ?_)
    · replace h := (if_neg hc5).symm.trans h
      exact hk _ _ h
    · replace h := (if_pos hc5).symm.trans h
      refine z_iload (pc := 26) hX 3 dX6_isNew_26 rfl ?_
      refine z_if_eq (pc := 28) (tgt := 55) hX dX6_isNew_28 (by decide) (fun hc4 => ?_) (fun hc4 => ?_)
      · replace h := (if_pos hc4).symm.trans h
        exact hk _ _ h
      · replace h := (if_neg hc4).symm.trans h
        refine z_aload_n (pc := 31) hX 0 dX6_isNew_31 rfl rfl ?_
        refine z_iload (pc := 32) hX 4 dX6_isNew_32 rfl ?_
        refine z_iload_n (pc := 34) hX 2 dX6_isNew_34 rfl rfl ?_
        refine z_iload_n (pc := 35) hX 1 dX6_isNew_35 rfl rfl ?_
        obtain ⟨r2, hr2, h⟩ := zcl_s h
        refine z_callVr (pc := 36) (c := 0) hX [.int (zI v5), .int (zI k3), .int (zI k2)] [] (wX6_isSame (ca := ca) hG  hr2) rfl zmv_RX6_61 (Nat.le_of_ble_eq_true rfl) (zMod_e (ca := ca) (f := m 0)) rfl rfl ⟨rfl, rfl⟩ ⟨by decide, by decide⟩ (Nat.le_of_ble_eq_true rfl) dX6_isNew_36 ?_
        refine z_if_ne (pc := 39) (tgt := 46) hX dX6_isNew_39 (by decide) (fun hc3 => ?_) (fun hc3 => ?_)
        · replace h := (if_neg hc3).symm.trans h
          refine z_iconst (pc := 46) hX dX6_isNew_46 ?_
          refine z_istore (pc := 47) (lv' := [(4, .int (zI 0)), (0, .ref (ad 0)), (2, .int (zI k2)), (3, .int (zI k3)), (5, .int (zI v5))]) hX dX6_isNew_47 (by decide) rfl ?_
          refine z_iinc (pc := 49) (lv' := [(5, .int (zI (v5 + 1))), (4, .int (zI 0)), (0, .ref (ad 0)), (2, .int (zI k2)), (3, .int (zI k3))]) hX 4 dX6_isNew_49 rfl (by decide) rfl ?_
          refine z_goto (pc := 52) (tgt := 20) hX dX6_isNew_52 (by decide) ?_
          refine z_sub [2, 3, 4, 1, 0] rfl ?_
          exact ih _ _ h
        · replace h := (if_pos hc3).symm.trans h
          refine z_iconst (pc := 42) hX dX6_isNew_42 ?_
          refine z_goto (pc := 43) (tgt := 47) hX dX6_isNew_43 (by decide) ?_
          refine z_istore (pc := 47) (lv' := [(4, .int (zI 1)), (0, .ref (ad 0)), (2, .int (zI k2)), (3, .int (zI k3)), (5, .int (zI v5))]) hX dX6_isNew_47 (by decide) rfl ?_
          refine z_iinc (pc := 49) (lv' := [(5, .int (zI (v5 + 1))), (4, .int (zI 1)), (0, .ref (ad 0)), (2, .int (zI k2)), (3, .int (zI k3))]) hX 4 dX6_isNew_49 rfl (by decide) rfl ?_
          refine z_goto (pc := 52) (tgt := 20) hX dX6_isNew_52 (by decide) ?_
          refine z_sub [2, 3, 4, 1, 0] rfl ?_
          exact ih _ _ h
set_option maxRecDepth 20000 in
set_option maxHeartbeats 4000000 in
theorem wX6_isNew {l : Launch} {D : va_G} {ca : Nat → ClassId} {ad : Nat → Nat} (hG : zGok (zGM D ca ad)) {a1 : Int} {r0 : Int} {m : zM} (h : FX6_isNew a1 m = some r0) : zCt l (zGM D ca ad) yX6_isNew cX6_isNew 6 (some .boolean) rmX6_isNew [.ref (ad 0), .int (zI a1)] m (some (.int (zI r0))) m := by
  unfold FX6_isNew at h
  refine z_of (plainFor_of_name (by decide +kernel)) hG (Nat.le_of_ble_eq_true rfl) (fun X hX => ?_)
  show zV X 6 m 0 [(0, .ref (ad 0)), (1, .int (zI a1))] []
  refine z_aload_n (pc := 0) hX 0 dX6_isNew_0 rfl rfl ?_
  refine z_iload_n (pc := 1) hX 1 dX6_isNew_1 rfl rfl ?_
  refine z_bipush (pc := 2) hX dX6_isNew_2 (by decide +kernel) ?_
  obtain ⟨r1, hr1, h⟩ := zcl_s h
  refine z_callVr (pc := 4) (c := 0) hX [.int (zI a1), .int (zI 49)] [] (wX6_endsBelow (ca := ca) hG  hr1) rfl zmv_RX6_57 (Nat.le_of_ble_eq_true rfl) (zMod_e (ca := ca) (f := m 0)) rfl rfl ⟨rfl, rfl⟩ ⟨by decide, by decide⟩ (Nat.le_of_ble_eq_true rfl) dX6_isNew_4 ?_
  refine z_istore_n (pc := 7) (lv' := [(2, .int (zI r1)), (0, .ref (ad 0)), (1, .int (zI a1))]) hX dX6_isNew_7 rfl (by decide) rfl ?_
  refine z_iload_n (pc := 8) hX 2 dX6_isNew_8 rfl rfl ?_
  refine z_iconst (pc := 9) hX dX6_isNew_9 ?_
  refine z_iadd (pc := 10) hX dX6_isNew_10 ?_
  refine z_iload_n (pc := 11) hX 0 dX6_isNew_11 rfl rfl ?_
  refine z_isub (pc := 12) hX dX6_isNew_12 ?_
  refine z_istore_n (pc := 13) (lv' := [(3, .int (zI ((a1 + 1) - r1))), (2, .int (zI r1)), (0, .ref (ad 0)), (1, .int (zI a1))]) hX dX6_isNew_13 rfl (by decide) rfl ?_
  refine z_iconst (pc := 14) hX dX6_isNew_14 ?_
  refine z_istore (pc := 15) (lv' := [(4, .int (zI 1)), (3, .int (zI ((a1 + 1) - r1))), (2, .int (zI r1)), (0, .ref (ad 0)), (1, .int (zI a1))]) hX dX6_isNew_15 (by decide) rfl ?_
  refine z_iconst (pc := 17) hX dX6_isNew_17 ?_
  refine z_istore (pc := 18) (lv' := [(5, .int (zI 0)), (4, .int (zI 1)), (3, .int (zI ((a1 + 1) - r1))), (2, .int (zI r1)), (0, .ref (ad 0)), (1, .int (zI a1))]) hX dX6_isNew_18 (by decide) rfl ?_
  refine z_sub [4, 3, 2, 1, 0] rfl ?_
  refine wX6_isNew_L20 hG  hX (fun y20_4 y20_5 h => ?_) _ _ _ h
  refine z_iload (pc := 55) hX 3 dX6_isNew_55 rfl ?_
  obtain ⟨g6, h⟩ := zgd_s h
  exact z_zret (pc := 57) hX rfl rfl g6 (Option.some.inj h) rfl dX6_isNew_57
def rmX6_lay : Room := { frames := 3, cells := 0, slots := 0, locals := 72 }
set_option maxRecDepth 20000 in
set_option maxHeartbeats 4000000 in
theorem wX6_lay_L7 {X : zXT} {l : Launch} {D : va_G} {ca : Nat → ClassId} {ad : Nat → Nat} (hG : zGok (zGM D ca ad))   {m0 : zM}  (hX : zC X l rmX6_lay (zGM D ca ad) none m0 cX6_lay 2 RX6 none) {k : Int → zM → Option (zM)} (hk : ∀ (v1 : Int) (m_ : zM), k v1 m_ = some m0 → zV X 2 m_ 77 [(0, .ref (ad 0)), (1, .int (zI v1))] []) : ∀ (n : Nat) (v1 : Int) (m_ : zM), FX6_lay_L7  k n v1 m_ = some m0 → zV X 2 m_ 7 [(0, .ref (ad 0)), (1, .int (zI v1))] [] := by
  intro n
  induction n with
  | zero => intro v1 m_ h; cases h
  | succ n ih =>
    intro v1 m_ h
    replace h : FX6_lay_L7_B  k (FX6_lay_L7  k n) v1 m_ = some m0 := h
    unfold FX6_lay_L7_B at h
    refine z_iload_n (pc := 7) hX 1 dX6_lay_7 rfl rfl ?_
    refine z_aload_n (pc := 8) hX 0 dX6_lay_8 rfl rfl ?_
    refine z_get (pc := 9) (c := 0) (j := 0) (v := .int (zI (m_ 0 0))) hX rfl zfl_RX6_69 (Nat.le_of_ble_eq_true rfl) (zMod_e (ca := ca) (f := m_ 0)) rfl dX6_lay_9 ?_
    refine z_icmp_ge (pc := 12) (tgt := 77) hX dX6_lay_12 (by decide) (fun hc9 => ?_) (fun hc9 => ?_)
    · replace h := (if_neg hc9).symm.trans h
      exact hk _ _ h
    · replace h := (if_pos hc9).symm.trans h
      refine z_aload_n (pc := 15) hX 0 dX6_lay_15 rfl rfl ?_
      refine z_iload_n (pc := 16) hX 1 dX6_lay_16 rfl rfl ?_
      obtain ⟨r2, hr2, h⟩ := zcl_s h
      refine z_callVr (pc := 17) (c := 0) hX [.int (zI v1)] [] (wX6_isNew (ca := ca) hG  hr2) rfl zmv_RX6_72 (Nat.le_of_ble_eq_true rfl) (zMod_e (ca := ca) (f := m_ 0)) rfl rfl ⟨rfl, rfl⟩ ⟨by decide, by decide⟩ (Nat.le_of_ble_eq_true rfl) dX6_lay_17 ?_
      refine z_if_eq (pc := 20) (tgt := 71) hX dX6_lay_20 (by decide) (fun hc8 => ?_) (fun hc8 => ?_)
      · replace h := (if_pos hc8).symm.trans h
        refine z_iinc (pc := 71) (lv' := [(1, .int (zI (v1 + 1))), (0, .ref (ad 0))]) hX 1 dX6_lay_71 rfl (by decide) rfl ?_
        refine z_goto (pc := 74) (tgt := 7) hX dX6_lay_74 (by decide) ?_
        refine z_sub [1, 0] rfl ?_
        exact ih _ _ h
      · replace h := (if_neg hc8).symm.trans h
        refine z_aload_n (pc := 23) hX 0 dX6_lay_23 rfl rfl ?_
        refine z_get (pc := 24) (c := 0) (j := 14) (v := .ref (ad 11)) hX rfl zfl_RX6_41 (Nat.le_of_ble_eq_true rfl) (zMod_e (ca := ca) (f := m_ 0)) rfl dX6_lay_24 ?_
        refine z_aload_n (pc := 27) hX 0 dX6_lay_27 rfl rfl ?_
        refine z_get (pc := 28) (c := 0) (j := 12) (v := .int (zI (m_ 0 12))) hX rfl zfl_RX6_65 (Nat.le_of_ble_eq_true rfl) (zMod_e (ca := ca) (f := m_ 0)) rfl dX6_lay_28 ?_
        refine z_aload_n (pc := 31) hX 0 dX6_lay_31 rfl rfl ?_
        refine z_iload_n (pc := 32) hX 1 dX6_lay_32 rfl rfl ?_
        refine z_bipush (pc := 33) hX dX6_lay_33 (by decide +kernel) ?_
        obtain ⟨r3, hr3, h⟩ := zcl_s h
        refine z_callVr (pc := 35) (c := 0) hX [.int (zI v1), .int (zI 49)] [.int (zI (m_ 0 12)), .ref (ad 11)] (wX6_endsBelow (ca := ca) hG  hr3) rfl zmv_RX6_57 (Nat.le_of_ble_eq_true rfl) (zMod_e (ca := ca) (f := m_ 0)) rfl rfl ⟨rfl, rfl⟩ ⟨by decide, by decide⟩ (Nat.le_of_ble_eq_true rfl) dX6_lay_35 ?_
        obtain ⟨m4, hm4, hi4, h⟩ := zwr_s h
        refine z_iast (pc := 38) (c := 11) hX zMi11 hi4 hm4 dX6_lay_38 ?_
        refine z_aload_n (pc := 39) hX 0 dX6_lay_39 rfl rfl ?_
        refine z_get (pc := 40) (c := 0) (j := 13) (v := .ref (ad 10)) hX rfl zfl_RX6_38 (Nat.le_of_ble_eq_true rfl) (zMod_e (ca := ca) (f := m4 0)) rfl dX6_lay_40 ?_
        refine z_aload_n (pc := 43) hX 0 dX6_lay_43 rfl rfl ?_
        refine z_get (pc := 44) (c := 0) (j := 12) (v := .int (zI (m4 0 12))) hX rfl zfl_RX6_65 (Nat.le_of_ble_eq_true rfl) (zMod_e (ca := ca) (f := m4 0)) rfl dX6_lay_44 ?_
        refine z_iload_n (pc := 47) hX 1 dX6_lay_47 rfl rfl ?_
        refine z_iconst (pc := 48) hX dX6_lay_48 ?_
        refine z_iadd (pc := 49) hX dX6_lay_49 ?_
        refine z_aload_n (pc := 50) hX 0 dX6_lay_50 rfl rfl ?_
        refine z_get (pc := 51) (c := 0) (j := 14) (v := .ref (ad 11)) hX rfl zfl_RX6_41 (Nat.le_of_ble_eq_true rfl) (zMod_e (ca := ca) (f := m4 0)) rfl dX6_lay_51 ?_
        refine z_aload_n (pc := 54) hX 0 dX6_lay_54 rfl rfl ?_
        refine z_get (pc := 55) (c := 0) (j := 12) (v := .int (zI (m4 0 12))) hX rfl zfl_RX6_65 (Nat.le_of_ble_eq_true rfl) (zMod_e (ca := ca) (f := m4 0)) rfl dX6_lay_55 ?_
        obtain ⟨x5, hx5, hi5, h⟩ := zrd_s h
        refine z_iald (pc := 58) (c := 11) hX zMi11 hi5 hx5 dX6_lay_58 ?_
        refine z_isub (pc := 59) hX dX6_lay_59 ?_
        obtain ⟨m6, hm6, hi6, h⟩ := zwr_s h
        refine z_iast (pc := 60) (c := 10) hX zMi10 hi6 hm6 dX6_lay_60 ?_
        refine z_aload_n (pc := 61) hX 0 dX6_lay_61 rfl rfl ?_
        refine z_dup (pc := 62) hX dX6_lay_62 rfl ?_
        refine z_get (pc := 63) (c := 0) (j := 12) (v := .int (zI (m6 0 12))) hX rfl zfl_RX6_65 (Nat.le_of_ble_eq_true rfl) (zMod_e (ca := ca) (f := m6 0)) rfl dX6_lay_63 ?_
        refine z_iconst (pc := 66) hX dX6_lay_66 ?_
        refine z_iadd (pc := 67) hX dX6_lay_67 ?_
        obtain ⟨m7, hm7, h⟩ := zpf_s h
        refine z_put (pc := 68) (c := 0) (j := 12) hX rfl zfl_RX6_65 zfi_6_12 (Nat.le_of_ble_eq_true rfl) (zMod_e (ca := ca) (f := m6 0)) (Nat.le_of_ble_eq_true rfl) (zMod_p12 (ca := ca)) hm7 dX6_lay_68 ?_
        refine z_iinc (pc := 71) (lv' := [(1, .int (zI (v1 + 1))), (0, .ref (ad 0))]) hX 1 dX6_lay_71 rfl (by decide) rfl ?_
        refine z_goto (pc := 74) (tgt := 7) hX dX6_lay_74 (by decide) ?_
        refine z_sub [1, 0] rfl ?_
        exact ih _ _ h
set_option maxRecDepth 20000 in
set_option maxHeartbeats 4000000 in
theorem wX6_lay {l : Launch} {D : va_G} {ca : Nat → ClassId} {ad : Nat → Nat} (hG : zGok (zGM D ca ad))  {m0 : zM} {m : zM} (h : FX6_lay m = some m0) : zCt l (zGM D ca ad) yX6_lay cX6_lay 2 none rmX6_lay [.ref (ad 0)] m none m0 := by
  unfold FX6_lay at h
  refine z_of (plainFor_of_name (by decide +kernel)) hG (Nat.le_of_ble_eq_true rfl) (fun X hX => ?_)
  show zV X 2 m 0 [(0, .ref (ad 0))] []
  refine z_aload_n (pc := 0) hX 0 dX6_lay_0 rfl rfl ?_
  refine z_iconst (pc := 1) hX dX6_lay_1 ?_
  obtain ⟨m1, hm1, h⟩ := zpf_s h
  refine z_put (pc := 2) (c := 0) (j := 12) hX rfl zfl_RX6_65 zfi_6_12 (Nat.le_of_ble_eq_true rfl) (zMod_e (ca := ca) (f := m 0)) (Nat.le_of_ble_eq_true rfl) (zMod_p12 (ca := ca)) hm1 dX6_lay_2 ?_
  refine z_iconst (pc := 5) hX dX6_lay_5 ?_
  refine z_istore_n (pc := 6) (lv' := [(1, .int (zI 0)), (0, .ref (ad 0))]) hX dX6_lay_6 rfl (by decide) rfl ?_
  refine z_sub [1, 0] rfl ?_
  refine wX6_lay_L7 hG  hX (fun y7_1 m7_ h => ?_) _ _ _ h
  exact z_vret (pc := 77) hX rfl rfl (Option.some.inj h) dX6_lay_77
def rmX6_isImaged : Room := { frames := 0, cells := 0, slots := 0, locals := 0 }
set_option maxRecDepth 20000 in
set_option maxHeartbeats 4000000 in
theorem wX6_isImaged_L30 {X : zXT} {l : Launch} {D : va_G} {ca : Nat → ClassId} {ad : Nat → Nat} (hG : zGok (zGM D ca ad)) {a1 : Int} {a2 : Int} {a3 : Int}  {r0 : Int} {m : zM} {k5 : Int} (hX : zC X l rmX6_isImaged (zGM D ca ad) (some (.int (zI r0))) m cX6_isImaged 8 RX6 (some .boolean)) {k : Int → Int → Option (Int)} (hk : ∀ (v6 : Int) (v7 : Int), k v6 v7 = some r0 → zV X 8 m 81 [(0, .ref (ad 0)), (1, .int (zI a1)), (2, .int (zI a2)), (3, .int (zI a3)), (5, .int (zI k5)), (6, .int (zI v6)), (7, .int (zI v7))] []) : ∀ (n : Nat) (v6 : Int) (v7 : Int), FX6_isImaged_L30 a1 a2 a3 k5 m k n v6 v7 = some r0 → zV X 8 m 30 [(0, .ref (ad 0)), (1, .int (zI a1)), (2, .int (zI a2)), (3, .int (zI a3)), (5, .int (zI k5)), (6, .int (zI v6)), (7, .int (zI v7))] [] := by
  intro n
  induction n with
  | zero => intro v6 v7 h; cases h
  | succ n ih =>
    intro v6 v7 h
    replace h : FX6_isImaged_L30_B a1 a2 a3 k5 m k (FX6_isImaged_L30 a1 a2 a3 k5 m k n) v6 v7 = some r0 := h
    unfold FX6_isImaged_L30_B at h
    refine z_iload (pc := 30) hX 6 dX6_isImaged_30 rfl ?_
    refine z_iload_n (pc := 32) hX 3 dX6_isImaged_32 rfl rfl ?_
    refine z_icmp_ge (pc := 33) (tgt := 81) hX dX6_isImaged_33 (by decide) (fun hc6 => ?_) (fun hc6 => ?_)
    · replace h := (if_neg hc6).symm.trans h
      exact hk _ _ h
    · replace h := (if_pos hc6).symm.trans h
      refine z_iload (pc := 36) hX 5 dX6_isImaged_36 rfl ?_
      refine z_if_eq (pc := 38) (tgt := 81) hX dX6_isImaged_38 (by decide) (fun hc5 => ?_) (fun hc5 => ?_)
      · replace h := (if_pos hc5).symm.trans h
        exact hk _ _ h
      · replace h := (if_neg hc5).symm.trans h
        refine z_aload_n (pc := 41) hX 0 dX6_isImaged_41 rfl rfl ?_
        refine z_get (pc := 42) (c := 0) (j := 4) (v := .ref (ad 3)) hX rfl zfl_RX6_16 (Nat.le_of_ble_eq_true rfl) (zMod_e (ca := ca) (f := m 0)) rfl dX6_isImaged_42 ?_
        refine z_bipush (pc := 45) hX dX6_isImaged_45 (by decide +kernel) ?_
        refine z_iload_n (pc := 47) hX 1 dX6_isImaged_47 rfl rfl ?_
        refine z_imul (pc := 48) hX dX6_isImaged_48 ?_
        refine z_iload (pc := 49) hX 4 dX6_isImaged_49 rfl ?_
        refine z_iadd (pc := 51) hX dX6_isImaged_51 ?_
        refine z_iload (pc := 52) hX 6 dX6_isImaged_52 rfl ?_
        refine z_iadd (pc := 54) hX dX6_isImaged_54 ?_
        obtain ⟨x2, hx2, hi2, h⟩ := zrd_s h
        refine z_iald (pc := 55) (c := 3) hX zMi3 hi2 hx2 dX6_isImaged_55 ?_
        refine z_aload_n (pc := 56) hX 0 dX6_isImaged_56 rfl rfl ?_
        refine z_get (pc := 57) (c := 0) (j := 1) (v := .ref (ad 1)) hX rfl zfl_RX6_7 (Nat.le_of_ble_eq_true rfl) (zMod_e (ca := ca) (f := m 0)) rfl dX6_isImaged_57 ?_
        refine z_iload_n (pc := 60) hX 2 dX6_isImaged_60 rfl rfl ?_
        refine z_iload (pc := 61) hX 6 dX6_isImaged_61 rfl ?_
        refine z_iadd (pc := 63) hX dX6_isImaged_63 ?_
        obtain ⟨x3, hx3, hi3, h⟩ := zrd_s h
        refine z_iald (pc := 64) (c := 1) hX zMi1 hi3 hx3 dX6_isImaged_64 ?_
        refine z_icmp_ne (pc := 65) (tgt := 72) hX dX6_isImaged_65 (by decide) (fun hc4 => ?_) (fun hc4 => ?_)
        · replace h := (if_neg hc4).symm.trans h
          refine z_iconst (pc := 72) hX dX6_isImaged_72 ?_
          refine z_istore (pc := 73) (lv' := [(6, .int (zI 0)), (0, .ref (ad 0)), (1, .int (zI a1)), (2, .int (zI a2)), (3, .int (zI a3)), (5, .int (zI k5)), (7, .int (zI v7))]) hX dX6_isImaged_73 (by decide) rfl ?_
          refine z_iinc (pc := 75) (lv' := [(7, .int (zI (v7 + 1))), (6, .int (zI 0)), (0, .ref (ad 0)), (1, .int (zI a1)), (2, .int (zI a2)), (3, .int (zI a3)), (5, .int (zI k5))]) hX 6 dX6_isImaged_75 rfl (by decide) rfl ?_
          refine z_goto (pc := 78) (tgt := 30) hX dX6_isImaged_78 (by decide) ?_
          refine z_sub [2, 3, 4, 5, 6, 1, 0] rfl ?_
          exact ih _ _ h
        · replace h := (if_pos hc4).symm.trans h
          refine z_iconst (pc := 68) hX dX6_isImaged_68 ?_
          refine z_goto (pc := 69) (tgt := 73) hX dX6_isImaged_69 (by decide) ?_
          refine z_istore (pc := 73) (lv' := [(6, .int (zI 1)), (0, .ref (ad 0)), (1, .int (zI a1)), (2, .int (zI a2)), (3, .int (zI a3)), (5, .int (zI k5)), (7, .int (zI v7))]) hX dX6_isImaged_73 (by decide) rfl ?_
          refine z_iinc (pc := 75) (lv' := [(7, .int (zI (v7 + 1))), (6, .int (zI 1)), (0, .ref (ad 0)), (1, .int (zI a1)), (2, .int (zI a2)), (3, .int (zI a3)), (5, .int (zI k5))]) hX 6 dX6_isImaged_75 rfl (by decide) rfl ?_
          refine z_goto (pc := 78) (tgt := 30) hX dX6_isImaged_78 (by decide) ?_
          refine z_sub [2, 3, 4, 5, 6, 1, 0] rfl ?_
          exact ih _ _ h
set_option maxRecDepth 20000 in
set_option maxHeartbeats 4000000 in
theorem wX6_isImaged_L6 {X : zXT} {l : Launch} {D : va_G} {ca : Nat → ClassId} {ad : Nat → Nat} (hG : zGok (zGM D ca ad)) {a1 : Int} {a2 : Int} {a3 : Int}  {r0 : Int} {m : zM}  (hX : zC X l rmX6_isImaged (zGM D ca ad) (some (.int (zI r0))) m cX6_isImaged 8 RX6 (some .boolean)) {k : Int → Int → Option (Int)} (hk : ∀ (v4 : Int) (v5 : Int), k v4 v5 = some r0 → zV X 8 m 91 [(0, .ref (ad 0)), (1, .int (zI a1)), (2, .int (zI a2)), (3, .int (zI a3)), (4, .int (zI v4)), (5, .int (zI v5))] []) : ∀ (n : Nat) (v4 : Int) (v5 : Int), FX6_isImaged_L6 a1 a2 a3 m k n v4 v5 = some r0 → zV X 8 m 6 [(0, .ref (ad 0)), (1, .int (zI a1)), (2, .int (zI a2)), (3, .int (zI a3)), (4, .int (zI v4)), (5, .int (zI v5))] [] := by
  intro n
  induction n with
  | zero => intro v4 v5 h; cases h
  | succ n ih =>
    intro v4 v5 h
    replace h : FX6_isImaged_L6_B a1 a2 a3 m k (FX6_isImaged_L6 a1 a2 a3 m k n) v4 v5 = some r0 := h
    unfold FX6_isImaged_L6_B at h
    refine z_iload (pc := 6) hX 5 dX6_isImaged_6 rfl ?_
    refine z_iload_n (pc := 8) hX 3 dX6_isImaged_8 rfl rfl ?_
    refine z_iadd (pc := 9) hX dX6_isImaged_9 ?_
    refine z_aload_n (pc := 10) hX 0 dX6_isImaged_10 rfl rfl ?_
    refine z_get (pc := 11) (c := 0) (j := 5) (v := .ref (ad 4)) hX rfl zfl_RX6_19 (Nat.le_of_ble_eq_true rfl) (zMod_e (ca := ca) (f := m 0)) rfl dX6_isImaged_11 ?_
    refine z_iload_n (pc := 14) hX 1 dX6_isImaged_14 rfl rfl ?_
    obtain ⟨x1, hx1, hi1, h⟩ := zrd_s h
    refine z_iald (pc := 15) (c := 4) hX zMi4 hi1 hx1 dX6_isImaged_15 ?_
    refine z_icmp_gt (pc := 16) (tgt := 91) hX dX6_isImaged_16 (by decide) (fun hc8 => ?_) (fun hc8 => ?_)
    · replace h := (if_pos hc8).symm.trans h
      exact hk _ _ h
    · replace h := (if_neg hc8).symm.trans h
      refine z_iload (pc := 19) hX 4 dX6_isImaged_19 rfl ?_
      refine z_if_ne (pc := 21) (tgt := 91) hX dX6_isImaged_21 (by decide) (fun hc7 => ?_) (fun hc7 => ?_)
      · replace h := (if_neg hc7).symm.trans h
        exact hk _ _ h
      · replace h := (if_pos hc7).symm.trans h
        refine z_iconst (pc := 24) hX dX6_isImaged_24 ?_
        refine z_istore (pc := 25) (lv' := [(6, .int (zI 1)), (0, .ref (ad 0)), (1, .int (zI a1)), (2, .int (zI a2)), (3, .int (zI a3)), (4, .int (zI v4)), (5, .int (zI v5))]) hX dX6_isImaged_25 (by decide) rfl ?_
        refine z_iconst (pc := 27) hX dX6_isImaged_27 ?_
        refine z_istore (pc := 28) (lv' := [(7, .int (zI 0)), (6, .int (zI 1)), (0, .ref (ad 0)), (1, .int (zI a1)), (2, .int (zI a2)), (3, .int (zI a3)), (4, .int (zI v4)), (5, .int (zI v5))]) hX dX6_isImaged_28 (by decide) rfl ?_
        refine z_sub [2, 3, 4, 5, 7, 1, 0] rfl ?_
        refine wX6_isImaged_L30 hG  hX (fun y30_6 y30_7 h => ?_) _ _ _ h
        refine z_iload (pc := 81) hX 5 dX6_isImaged_81 rfl ?_
        refine z_istore (pc := 83) (lv' := [(4, .int (zI y30_6)), (0, .ref (ad 0)), (1, .int (zI a1)), (2, .int (zI a2)), (3, .int (zI a3)), (5, .int (zI v5)), (6, .int (zI y30_6)), (7, .int (zI y30_7))]) hX dX6_isImaged_83 (by decide) rfl ?_
        refine z_iinc (pc := 85) (lv' := [(5, .int (zI (v5 + 1))), (4, .int (zI y30_6)), (0, .ref (ad 0)), (1, .int (zI a1)), (2, .int (zI a2)), (3, .int (zI a3)), (6, .int (zI y30_6)), (7, .int (zI y30_7))]) hX 5 dX6_isImaged_85 rfl (by decide) rfl ?_
        refine z_goto (pc := 88) (tgt := 6) hX dX6_isImaged_88 (by decide) ?_
        refine z_sub [2, 3, 4, 5, 1, 0] rfl ?_
        exact ih _ _ h
set_option maxRecDepth 20000 in
set_option maxHeartbeats 4000000 in
theorem wX6_isImaged {l : Launch} {D : va_G} {ca : Nat → ClassId} {ad : Nat → Nat} (hG : zGok (zGM D ca ad)) {a1 : Int} {a2 : Int} {a3 : Int} {r0 : Int} {m : zM} (h : FX6_isImaged a1 a2 a3 m = some r0) : zCt l (zGM D ca ad) yX6_isImaged cX6_isImaged 8 (some .boolean) rmX6_isImaged [.ref (ad 0), .int (zI a1), .int (zI a2), .int (zI a3)] m (some (.int (zI r0))) m := by
  unfold FX6_isImaged at h
  refine z_of (plainFor_of_name (by decide +kernel)) hG (Nat.le_of_ble_eq_true rfl) (fun X hX => ?_)
  show zV X 8 m 0 [(0, .ref (ad 0)), (1, .int (zI a1)), (2, .int (zI a2)), (3, .int (zI a3))] []
  refine z_iconst (pc := 0) hX dX6_isImaged_0 ?_
  refine z_istore (pc := 1) (lv' := [(4, .int (zI 0)), (0, .ref (ad 0)), (1, .int (zI a1)), (2, .int (zI a2)), (3, .int (zI a3))]) hX dX6_isImaged_1 (by decide) rfl ?_
  refine z_iconst (pc := 3) hX dX6_isImaged_3 ?_
  refine z_istore (pc := 4) (lv' := [(5, .int (zI 0)), (4, .int (zI 0)), (0, .ref (ad 0)), (1, .int (zI a1)), (2, .int (zI a2)), (3, .int (zI a3))]) hX dX6_isImaged_4 (by decide) rfl ?_
  refine z_sub [2, 3, 4, 5, 1, 0] rfl ?_
  refine wX6_isImaged_L6 hG  hX (fun y6_4 y6_5 h => ?_) _ _ _ h
  refine z_iload (pc := 91) hX 4 dX6_isImaged_91 rfl ?_
  obtain ⟨g9, h⟩ := zgd_s h
  exact z_zret (pc := 93) hX rfl rfl g9 (Option.some.inj h) rfl dX6_isImaged_93
def rmX6_common : Room := { frames := 4, cells := 0, slots := 0, locals := 93 }
set_option maxRecDepth 20000 in
set_option maxHeartbeats 4000000 in
theorem wX6_common_L46 {X : zXT} {l : Launch} {D : va_G} {ca : Nat → ClassId} {ad : Nat → Nat} (hG : zGok (zGM D ca ad)) {a1 : Int} {a2 : Int}  {r0 : Int} {m0 : zM} {mc : zM}  (hX : zC X l rmX6_common (zGM D ca ad) (some (.int (zI r0))) m0 cX6_common 7 RX6 (some .int)) {k : Int → Int → Int → Option (Int × zM)} (hk : ∀ (v3 : Int) (v4 : Int) (v5 : Int), k v3 v4 v5 = some (r0, m0) → zV X 7 mc 126 [(0, .ref (ad 0)), (1, .int (zI a1)), (2, .int (zI a2)), (3, .int (zI v3)), (4, .int (zI v4)), (5, .int (zI v5))] []) : ∀ (n : Nat) (v3 : Int) (v4 : Int) (v5 : Int), FX6_common_L46 a1 a2 mc k n v3 v4 v5 = some (r0, m0) → zV X 7 mc 46 [(0, .ref (ad 0)), (1, .int (zI a1)), (2, .int (zI a2)), (3, .int (zI v3)), (4, .int (zI v4)), (5, .int (zI v5))] [] := by
  intro n
  induction n with
  | zero => intro v3 v4 v5 h; cases h
  | succ n ih =>
    intro v3 v4 v5 h
    replace h : FX6_common_L46_B a1 a2 mc k (FX6_common_L46 a1 a2 mc k n) v3 v4 v5 = some (r0, m0) := h
    unfold FX6_common_L46_B at h
    refine z_iload (pc := 46) hX 5 dX6_common_46 rfl ?_
    refine z_aload_n (pc := 48) hX 0 dX6_common_48 rfl rfl ?_
    refine z_get (pc := 49) (c := 0) (j := 12) (v := .int (zI (mc 0 12))) hX rfl zfl_RX6_65 (Nat.le_of_ble_eq_true rfl) (zMod_e (ca := ca) (f := mc 0)) rfl dX6_common_49 ?_
    refine z_icmp_ge (pc := 52) (tgt := 126) hX dX6_common_52 (by decide) (fun hc15 => ?_) (fun hc15 => ?_)
    · replace h := (if_neg hc15).symm.trans h
      exact hk _ _ _ h
    · replace h := (if_pos hc15).symm.trans h
      refine z_aload_n (pc := 55) hX 0 dX6_common_55 rfl rfl ?_
      refine z_iload_n (pc := 56) hX 1 dX6_common_56 rfl rfl ?_
      refine z_aload_n (pc := 57) hX 0 dX6_common_57 rfl rfl ?_
      refine z_get (pc := 58) (c := 0) (j := 13) (v := .ref (ad 10)) hX rfl zfl_RX6_38 (Nat.le_of_ble_eq_true rfl) (zMod_e (ca := ca) (f := mc 0)) rfl dX6_common_58 ?_
      refine z_iload (pc := 61) hX 5 dX6_common_61 rfl ?_
      obtain ⟨x7, hx7, hi7, h⟩ := zrd_s h
      refine z_iald (pc := 63) (c := 10) hX zMi10 hi7 hx7 dX6_common_63 ?_
      refine z_aload_n (pc := 64) hX 0 dX6_common_64 rfl rfl ?_
      refine z_get (pc := 65) (c := 0) (j := 14) (v := .ref (ad 11)) hX rfl zfl_RX6_41 (Nat.le_of_ble_eq_true rfl) (zMod_e (ca := ca) (f := mc 0)) rfl dX6_common_65 ?_
      refine z_iload (pc := 68) hX 5 dX6_common_68 rfl ?_
      obtain ⟨x8, hx8, hi8, h⟩ := zrd_s h
      refine z_iald (pc := 70) (c := 11) hX zMi11 hi8 hx8 dX6_common_70 ?_
      obtain ⟨r9, hr9, h⟩ := zcl_s h
      refine z_callVr (pc := 71) (c := 0) hX [.int (zI a1), .int (zI x7), .int (zI x8)] [] (wX6_isImaged (ca := ca) hG  hr9) rfl zmv_RX6_123 (Nat.le_of_ble_eq_true rfl) (zMod_e (ca := ca) (f := mc 0)) rfl rfl ⟨rfl, rfl⟩ ⟨by decide, by decide⟩ (Nat.le_of_ble_eq_true rfl) dX6_common_71 ?_
      refine z_istore (pc := 74) (lv' := [(6, .int (zI r9)), (0, .ref (ad 0)), (1, .int (zI a1)), (2, .int (zI a2)), (3, .int (zI v3)), (4, .int (zI v4)), (5, .int (zI v5))]) hX dX6_common_74 (by decide) rfl ?_
      refine z_iload_n (pc := 76) hX 4 dX6_common_76 rfl rfl ?_
      refine z_iload (pc := 77) hX 0 dX6_common_77 rfl ?_
      obtain ⟨j87, hj87, h⟩ := zjn_s h (fun (j : Int → Option (Int × zM)) => ∀ (s87_0 : Int), j s87_0 = some (r0, m0) → zV X 7 mc 87 [(0, .ref (ad 0)), (1, .int (zI a1)), (2, .int (zI a2)), (4, .int (zI v4)), (5, .int (zI v5)), (6, .int (zI r9))] [.int (zI s87_0), .int (zI v3)]) (fun s87_0 h => by
          refine z_iadd (pc := 87) hX dX6_common_87 ?_
          refine z_istore_n (pc := 88) (lv' := [(3, .int (zI (v3 + s87_0))), (0, .ref (ad 0)), (1, .int (zI a1)), (2, .int (zI a2)), (4, .int (zI v4)), (5, .int (zI v5)), (6, .int (zI r9))]) hX dX6_common_88 rfl (by decide) rfl ?_
          refine z_iload (pc := 89) hX 6 dX6_common_89 rfl ?_
          refine z_if_eq (pc := 91) (tgt := 116) hX dX6_common_91 (by decide) (fun hc13 => ?_) (fun hc13 => ?_)
          · replace h := (if_pos hc13).symm.trans h
            refine z_iload (pc := 116) hX 4 dX6_common_116 rfl ?_
            refine z_istore (pc := 118) (lv' := [(4, .int (zI v4)), (3, .int (zI (v3 + s87_0))), (0, .ref (ad 0)), (1, .int (zI a1)), (2, .int (zI a2)), (5, .int (zI v5)), (6, .int (zI r9))]) hX dX6_common_118 (by decide) rfl ?_
            refine z_iinc (pc := 120) (lv' := [(5, .int (zI (v5 + 1))), (4, .int (zI v4)), (3, .int (zI (v3 + s87_0))), (0, .ref (ad 0)), (1, .int (zI a1)), (2, .int (zI a2)), (6, .int (zI r9))]) hX 5 dX6_common_120 rfl (by decide) rfl ?_
            refine z_goto (pc := 123) (tgt := 46) hX dX6_common_123 (by decide) ?_
            refine z_sub [3, 4, 5, 2, 1, 0] rfl ?_
            exact ih _ _ _ h
          · replace h := (if_neg hc13).symm.trans h
            refine z_aload_n (pc := 94) hX 1 dX6_common_94 rfl rfl ?_
            refine z_get (pc := 95) (c := 0) (j := 14) (v := .ref (ad 11)) hX rfl zfl_RX6_41 (Nat.le_of_ble_eq_true rfl) (zMod_e (ca := ca) (f := mc 0)) rfl dX6_common_95 ?_
            refine z_iload (pc := 98) hX 5 dX6_common_98 rfl ?_
            obtain ⟨x10, hx10, hi10, h⟩ := zrd_s h
            refine z_iald (pc := 100) (c := 11) hX zMi11 hi10 hx10 dX6_common_100 ?_
            refine z_iload (pc := 101) hX 4 dX6_common_101 rfl ?_
            refine z_icmp_le (pc := 103) (tgt := 116) hX dX6_common_103 (by decide) (fun hc12 => ?_) (fun hc12 => ?_)
            · replace h := (if_neg hc12).symm.trans h
              refine z_iload (pc := 116) hX 4 dX6_common_116 rfl ?_
              refine z_istore (pc := 118) (lv' := [(4, .int (zI v4)), (3, .int (zI (v3 + s87_0))), (0, .ref (ad 0)), (1, .int (zI a1)), (2, .int (zI a2)), (5, .int (zI v5)), (6, .int (zI r9))]) hX dX6_common_118 (by decide) rfl ?_
              refine z_iinc (pc := 120) (lv' := [(5, .int (zI (v5 + 1))), (4, .int (zI v4)), (3, .int (zI (v3 + s87_0))), (0, .ref (ad 0)), (1, .int (zI a1)), (2, .int (zI a2)), (6, .int (zI r9))]) hX 5 dX6_common_120 rfl (by decide) rfl ?_
              refine z_goto (pc := 123) (tgt := 46) hX dX6_common_123 (by decide) ?_
              refine z_sub [3, 4, 5, 2, 1, 0] rfl ?_
              exact ih _ _ _ h
            · replace h := (if_pos hc12).symm.trans h
              refine z_aload_n (pc := 106) hX 1 dX6_common_106 rfl rfl ?_
              refine z_get (pc := 107) (c := 0) (j := 14) (v := .ref (ad 11)) hX rfl zfl_RX6_41 (Nat.le_of_ble_eq_true rfl) (zMod_e (ca := ca) (f := mc 0)) rfl dX6_common_107 ?_
              refine z_iload (pc := 110) hX 5 dX6_common_110 rfl ?_
              obtain ⟨x11, hx11, hi11, h⟩ := zrd_s h
              refine z_iald (pc := 112) (c := 11) hX zMi11 hi11 hx11 dX6_common_112 ?_
              refine z_goto (pc := 113) (tgt := 118) hX dX6_common_113 (by decide) ?_
              refine z_istore (pc := 118) (lv' := [(4, .int (zI x11)), (3, .int (zI (v3 + s87_0))), (0, .ref (ad 0)), (1, .int (zI a1)), (2, .int (zI a2)), (5, .int (zI v5)), (6, .int (zI r9))]) hX dX6_common_118 (by decide) rfl ?_
              refine z_iinc (pc := 120) (lv' := [(5, .int (zI (v5 + 1))), (4, .int (zI x11)), (3, .int (zI (v3 + s87_0))), (0, .ref (ad 0)), (1, .int (zI a1)), (2, .int (zI a2)), (6, .int (zI r9))]) hX 5 dX6_common_120 rfl (by decide) rfl ?_
              refine z_goto (pc := 123) (tgt := 46) hX dX6_common_123 (by decide) ?_
              refine z_sub [3, 4, 5, 2, 1, 0] rfl ?_
              exact ih _ _ _ h
          )
      refine z_if_eq (pc := 79) (tgt := 86) hX dX6_common_79 (by decide) (fun hc14 => ?_) (fun hc14 => ?_)
      · replace h := (if_pos hc14).symm.trans h
        refine z_iconst (pc := 86) hX dX6_common_86 ?_
        refine z_sub [1, 2, 3, 5, 6, 0] rfl ?_
        exact hj87 _ h
      · replace h := (if_neg hc14).symm.trans h
        refine z_iconst (pc := 82) hX dX6_common_82 ?_
        refine z_goto (pc := 83) (tgt := 87) hX dX6_common_83 (by decide) ?_
        refine z_sub [1, 2, 3, 5, 6, 0] rfl ?_
        exact hj87 _ h
set_option maxRecDepth 20000 in
set_option maxHeartbeats 4000000 in
theorem wX6_common {l : Launch} {D : va_G} {ca : Nat → ClassId} {ad : Nat → Nat} (hG : zGok (zGM D ca ad)) {a1 : Int} {a2 : Int} {r0 : Int} {m0 : zM} {m : zM} (h : FX6_common a1 a2 m = some (r0, m0)) : zCt l (zGM D ca ad) yX6_common cX6_common 7 (some .int) rmX6_common [.ref (ad 0), .int (zI a1), .int (zI a2)] m (some (.int (zI r0))) m0 := by
  unfold FX6_common at h
  refine z_of (plainFor_of_name (by decide +kernel)) hG (Nat.le_of_ble_eq_true rfl) (fun X hX => ?_)
  show zV X 7 m 0 [(0, .ref (ad 0)), (1, .int (zI a1)), (2, .int (zI a2))] []
  refine z_iload_n (pc := 0) hX 1 dX6_common_0 rfl rfl ?_
  obtain ⟨g1, h⟩ := zgd_s h
  refine z_i2l (pc := 1) hX g1 dX6_common_1 ?_
  refine z_lconst (pc := 2) (a := 0) hX dX6_common_2 (by decide +kernel) ?_
  refine z_lconst (pc := 3) (a := 1) hX dX6_common_3 (by decide +kernel) ?_
  obtain ⟨r2, hr2, h⟩ := zcl_s h
  refine z_callSr (pc := 4) hX [.long (zJ a1), .long (zJ 0), .long (zJ 1)] [] (wX6_within (ca := ca) hG  hr2) zms_RX6_90 rfl rfl ⟨rfl, rfl⟩ ⟨by decide, by decide⟩ (Nat.le_of_ble_eq_true rfl) dX6_common_4 ?_
  refine z_if_eq (pc := 7) (tgt := 20) hX dX6_common_7 (by decide) (fun hc19 => ?_) (fun hc19 => ?_)
  · replace h := (if_pos hc19).symm.trans h
    refine z_iconst (pc := 20) hX dX6_common_20 ?_
    exact z_iret (pc := 21) hX rfl rfl (Prod.mk.inj (Option.some.inj h)).1 (Prod.mk.inj (Option.some.inj h)).2 dX6_common_21
  · replace h := (if_neg hc19).symm.trans h
    refine z_iload_n (pc := 10) hX 2 dX6_common_10 rfl rfl ?_
    obtain ⟨g3, h⟩ := zgd_s h
    refine z_i2l (pc := 11) hX g3 dX6_common_11 ?_
    refine z_lconst (pc := 12) (a := 0) hX dX6_common_12 (by decide +kernel) ?_
    refine z_lconst (pc := 13) (a := 1) hX dX6_common_13 (by decide +kernel) ?_
    obtain ⟨r4, hr4, h⟩ := zcl_s h
    refine z_callSr (pc := 14) hX [.long (zJ a2), .long (zJ 0), .long (zJ 1)] [] (wX6_within (ca := ca) hG  hr4) zms_RX6_90 rfl rfl ⟨rfl, rfl⟩ ⟨by decide, by decide⟩ (Nat.le_of_ble_eq_true rfl) dX6_common_14 ?_
    refine z_if_ne (pc := 17) (tgt := 22) hX dX6_common_17 (by decide) (fun hc18 => ?_) (fun hc18 => ?_)
    · replace h := (if_neg hc18).symm.trans h
      refine z_aload_n (pc := 22) hX 0 dX6_common_22 rfl rfl ?_
      refine z_get (pc := 23) (c := 0) (j := 5) (v := .ref (ad 4)) hX rfl zfl_RX6_19 (Nat.le_of_ble_eq_true rfl) (zMod_e (ca := ca) (f := m 0)) rfl dX6_common_23 ?_
      refine z_iload_n (pc := 26) hX 1 dX6_common_26 rfl rfl ?_
      obtain ⟨x5, hx5, hi5, h⟩ := zrd_s h
      refine z_iald (pc := 27) (c := 4) hX zMi4 hi5 hx5 dX6_common_27 ?_
      refine z_if_ge (pc := 28) (tgt := 34) hX dX6_common_28 (by decide) (fun hc17 => ?_) (fun hc17 => ?_)
      · replace h := (if_neg hc17).symm.trans h
        refine z_aload_n (pc := 34) hX 0 dX6_common_34 rfl rfl ?_
        obtain ⟨m6, hr6, h⟩ := zcl_s h
        refine z_callVv (pc := 35) (v := .null) (c := 0) hX [] [] (wX6_lay (ca := ca) hG  hr6) rfl zmv_RX6_111 (Nat.le_of_ble_eq_true rfl) (zMod_e (ca := ca) (f := m 0)) rfl rfl ⟨rfl, rfl⟩ ⟨by decide, by decide⟩ (Nat.le_of_ble_eq_true rfl) dX6_common_35 ?_
        refine z_iconst (pc := 38) hX dX6_common_38 ?_
        refine z_istore_n (pc := 39) (lv' := [(3, .int (zI 0)), (0, .ref (ad 0)), (1, .int (zI a1)), (2, .int (zI a2))]) hX dX6_common_39 rfl (by decide) rfl ?_
        refine z_iconst (pc := 40) hX dX6_common_40 ?_
        refine z_istore (pc := 41) (lv' := [(4, .int (zI 0)), (3, .int (zI 0)), (0, .ref (ad 0)), (1, .int (zI a1)), (2, .int (zI a2))]) hX dX6_common_41 (by decide) rfl ?_
        refine z_iconst (pc := 43) hX dX6_common_43 ?_
        refine z_istore (pc := 44) (lv' := [(5, .int (zI 0)), (4, .int (zI 0)), (3, .int (zI 0)), (0, .ref (ad 0)), (1, .int (zI a1)), (2, .int (zI a2))]) hX dX6_common_44 (by decide) rfl ?_
        refine z_sub [3, 4, 5, 2, 1, 0] rfl ?_
        refine wX6_common_L46 hG  hX (fun y46_3 y46_4 y46_5 h => ?_) _ _ _ _ h
        refine z_iload_n (pc := 126) hX 2 dX6_common_126 rfl rfl ?_
        refine z_if_ne (pc := 127) (tgt := 134) hX dX6_common_127 (by decide) (fun hc16 => ?_) (fun hc16 => ?_)
        · replace h := (if_neg hc16).symm.trans h
          refine z_iload (pc := 134) hX 4 dX6_common_134 rfl ?_
          exact z_iret (pc := 136) hX rfl rfl (Prod.mk.inj (Option.some.inj h)).1 (Prod.mk.inj (Option.some.inj h)).2 dX6_common_136
        · replace h := (if_pos hc16).symm.trans h
          refine z_iload_n (pc := 130) hX 3 dX6_common_130 rfl rfl ?_
          refine z_goto (pc := 131) (tgt := 136) hX dX6_common_131 (by decide) ?_
          exact z_iret (pc := 136) hX rfl rfl (Prod.mk.inj (Option.some.inj h)).1 (Prod.mk.inj (Option.some.inj h)).2 dX6_common_136
      · replace h := (if_pos hc17).symm.trans h
        refine z_bipush (pc := 31) hX dX6_common_31 (by decide +kernel) ?_
        exact z_iret (pc := 33) hX rfl rfl (Prod.mk.inj (Option.some.inj h)).1 (Prod.mk.inj (Option.some.inj h)).2 dX6_common_33
    · replace h := (if_pos hc18).symm.trans h
      refine z_iconst (pc := 20) hX dX6_common_20 ?_
      exact z_iret (pc := 21) hX rfl rfl (Prod.mk.inj (Option.some.inj h)).1 (Prod.mk.inj (Option.some.inj h)).2 dX6_common_21
def rmX6_isSheet : Room := { frames := 1, cells := 0, slots := 0, locals := 25 }
set_option maxRecDepth 20000 in
set_option maxHeartbeats 4000000 in
theorem wX6_isSheet {l : Launch} {D : va_G} {ca : Nat → ClassId} {ad : Nat → Nat} (hG : zGok (zGM D ca ad)) {a0 : Int} {r0 : Int} {m : zM} (h : FX6_isSheet a0 = some r0) : zCt l (zGM D ca ad) yX6_isSheet cX6_isSheet 1 (some .boolean) rmX6_isSheet [.int (zI a0)] m (some (.int (zI r0))) m := by
  unfold FX6_isSheet at h
  refine z_of (plainFor_of_name (by decide +kernel)) hG (Nat.le_of_ble_eq_true rfl) (fun X hX => ?_)
  show zV X 1 m 0 [(0, .int (zI a0))] []
  refine z_iload_n (pc := 0) hX 0 dX6_isSheet_0 rfl rfl ?_
  obtain ⟨g1, h⟩ := zgd_s h
  refine z_i2l (pc := 1) hX g1 dX6_isSheet_1 ?_
  refine z_lconst (pc := 2) (a := 0) hX dX6_isSheet_2 (by decide +kernel) ?_
  refine z_ldc2 (pc := 3) (n := 3) hX zk_RX6_145 (by decide +kernel) dX6_isSheet_3 ?_
  obtain ⟨r2, hr2, h⟩ := zcl_s h
  refine z_callSr (pc := 6) hX [.long (zJ a0), .long (zJ 0), .long (zJ 3)] [] (wX6_within (ca := ca) hG  hr2) zms_RX6_90 rfl rfl ⟨rfl, rfl⟩ ⟨by decide, by decide⟩ (Nat.le_of_ble_eq_true rfl) dX6_isSheet_6 ?_
  obtain ⟨g3, h⟩ := zgd_s h
  exact z_zret (pc := 9) hX rfl rfl g3 (Option.some.inj h) rfl dX6_isSheet_9
def rmX6_whyNot : Room := { frames := 0, cells := 0, slots := 0, locals := 0 }
set_option maxRecDepth 20000 in
set_option maxHeartbeats 4000000 in
theorem wX6_whyNot {l : Launch} {D : va_G} {ca : Nat → ClassId} {ad : Nat → Nat} (hG : zGok (zGM D ca ad)) {a1 : Int} {a2 : Int} {a3 : Int} {a4 : Int} {r0 : Int} {m : zM} (h : FX6_whyNot a1 a2 a3 a4 m = some r0) : zCt l (zGM D ca ad) yX6_whyNot cX6_whyNot 5 (some .int) rmX6_whyNot [.ref (ad 0), .int (zI a1), .int (zI a2), .int (zI a3), .int (zI a4)] m (some (.int (zI r0))) m := by
  unfold FX6_whyNot at h
  refine z_of (plainFor_of_name (by decide +kernel)) hG (Nat.le_of_ble_eq_true rfl) (fun X hX => ?_)
  show zV X 5 m 0 [(0, .ref (ad 0)), (1, .int (zI a1)), (2, .int (zI a2)), (3, .int (zI a3)), (4, .int (zI a4))] []
  refine z_aload_n (pc := 0) hX 0 dX6_whyNot_0 rfl rfl ?_
  refine z_get (pc := 1) (c := 0) (j := 8) (v := .ref (ad 6)) hX rfl zfl_RX6_25 (Nat.le_of_ble_eq_true rfl) (zMod_e (ca := ca) (f := m 0)) rfl dX6_whyNot_1 ?_
  refine z_iload_n (pc := 4) hX 1 dX6_whyNot_4 rfl rfl ?_
  obtain ⟨x1, hx1, hi1, h⟩ := zrd_s h
  refine z_iald (pc := 5) (c := 6) hX zMi6 hi1 hx1 dX6_whyNot_5 ?_
  refine z_if_ge (pc := 6) (tgt := 12) hX dX6_whyNot_6 (by decide) (fun hc11 => ?_) (fun hc11 => ?_)
  · replace h := (if_neg hc11).symm.trans h
    refine z_aload_n (pc := 12) hX 0 dX6_whyNot_12 rfl rfl ?_
    refine z_get (pc := 13) (c := 0) (j := 8) (v := .ref (ad 6)) hX rfl zfl_RX6_25 (Nat.le_of_ble_eq_true rfl) (zMod_e (ca := ca) (f := m 0)) rfl dX6_whyNot_13 ?_
    refine z_iload_n (pc := 16) hX 1 dX6_whyNot_16 rfl rfl ?_
    obtain ⟨x2, hx2, hi2, h⟩ := zrd_s h
    refine z_iald (pc := 17) (c := 6) hX zMi6 hi2 hx2 dX6_whyNot_17 ?_
    refine z_iload_n (pc := 18) hX 2 dX6_whyNot_18 rfl rfl ?_
    refine z_icmp_eq (pc := 19) (tgt := 25) hX dX6_whyNot_19 (by decide) (fun hc10 => ?_) (fun hc10 => ?_)
    · replace h := (if_pos hc10).symm.trans h
      refine z_iload_n (pc := 25) hX 3 dX6_whyNot_25 rfl rfl ?_
      refine z_if_lt (pc := 26) (tgt := 55) hX dX6_whyNot_26 (by decide) (fun hc9 => ?_) (fun hc9 => ?_)
      · replace h := (if_pos hc9).symm.trans h
        refine z_bipush (pc := 55) hX dX6_whyNot_55 (by decide +kernel) ?_
        exact z_iret (pc := 57) hX rfl rfl (Option.some.inj h) rfl dX6_whyNot_57
      · replace h := (if_neg hc9).symm.trans h
        refine z_iload (pc := 29) hX 4 dX6_whyNot_29 rfl ?_
        refine z_if_lt (pc := 31) (tgt := 55) hX dX6_whyNot_31 (by decide) (fun hc8 => ?_) (fun hc8 => ?_)
        · replace h := (if_pos hc8).symm.trans h
          refine z_bipush (pc := 55) hX dX6_whyNot_55 (by decide +kernel) ?_
          exact z_iret (pc := 57) hX rfl rfl (Option.some.inj h) rfl dX6_whyNot_57
        · replace h := (if_neg hc8).symm.trans h
          refine z_iload_n (pc := 34) hX 3 dX6_whyNot_34 rfl rfl ?_
          obtain ⟨g3, h⟩ := zgd_s h
          refine z_i2l (pc := 35) hX g3 dX6_whyNot_35 ?_
          refine z_iload (pc := 36) hX 4 dX6_whyNot_36 rfl ?_
          obtain ⟨g4, h⟩ := zgd_s h
          refine z_i2l (pc := 38) hX g4 dX6_whyNot_38 ?_
          refine z_ladd (pc := 39) hX dX6_whyNot_39 ?_
          refine z_aload_n (pc := 40) hX 0 dX6_whyNot_40 rfl rfl ?_
          refine z_get (pc := 41) (c := 0) (j := 9) (v := .ref (ad 7)) hX rfl zfl_RX6_28 (Nat.le_of_ble_eq_true rfl) (zMod_e (ca := ca) (f := m 0)) rfl dX6_whyNot_41 ?_
          refine z_iload_n (pc := 44) hX 1 dX6_whyNot_44 rfl rfl ?_
          obtain ⟨x5, hx5, hi5, h⟩ := zrd_s h
          refine z_iald (pc := 45) (c := 7) hX zMi7 hi5 hx5 dX6_whyNot_45 ?_
          obtain ⟨g6, h⟩ := zgd_s h
          refine z_i2l (pc := 46) hX g6 dX6_whyNot_46 ?_
          refine z_lcmp_gt (pc := 47) (tgt := 55) hX dX6_whyNot_47 dX6_whyNot_48 (by decide) (fun hc7 => ?_) (fun hc7 => ?_)
          · replace h := (if_pos hc7).symm.trans h
            refine z_bipush (pc := 55) hX dX6_whyNot_55 (by decide +kernel) ?_
            exact z_iret (pc := 57) hX rfl rfl (Option.some.inj h) rfl dX6_whyNot_57
          · replace h := (if_neg hc7).symm.trans h
            refine z_iconst (pc := 51) hX dX6_whyNot_51 ?_
            refine z_goto (pc := 52) (tgt := 57) hX dX6_whyNot_52 (by decide) ?_
            exact z_iret (pc := 57) hX rfl rfl (Option.some.inj h) rfl dX6_whyNot_57
    · replace h := (if_neg hc10).symm.trans h
      refine z_bipush (pc := 22) hX dX6_whyNot_22 (by decide +kernel) ?_
      exact z_iret (pc := 24) hX rfl rfl (Option.some.inj h) rfl dX6_whyNot_24
  · replace h := (if_pos hc11).symm.trans h
    refine z_bipush (pc := 9) hX dX6_whyNot_9 (by decide +kernel) ?_
    exact z_iret (pc := 11) hX rfl rfl (Option.some.inj h) rfl dX6_whyNot_11
def rmX6_copy : Room := { frames := 2, cells := 0, slots := 0, locals := 45 }
set_option maxRecDepth 20000 in
set_option maxHeartbeats 4000000 in
theorem wX6_copy_L96 {X : zXT} {l : Launch} {D : va_G} {ca : Nat → ClassId} {ad : Nat → Nat} (hG : zGok (zGM D ca ad)) {a1 : Int} {a2 : Int} {a3 : Int} {a4 : Int} {a5 : Int}  {r0 : Int} {m0 : zM}  (hX : zC X l rmX6_copy (zGM D ca ad) (some (.int (zI r0))) m0 cX6_copy 7 RX6 (some .int)) {k : Int → zM → Option (Int × zM)} (hk : ∀ (v6 : Int) (m_ : zM), k v6 m_ = some (r0, m0) → zV X 7 m_ 130 [(0, .ref (ad 0)), (1, .int (zI a1)), (2, .int (zI a2)), (3, .int (zI a3)), (4, .int (zI a4)), (5, .int (zI a5)), (6, .int (zI v6))] []) : ∀ (n : Nat) (v6 : Int) (m_ : zM), FX6_copy_L96 a1 a2 a3 a4 a5 k n v6 m_ = some (r0, m0) → zV X 7 m_ 96 [(0, .ref (ad 0)), (1, .int (zI a1)), (2, .int (zI a2)), (3, .int (zI a3)), (4, .int (zI a4)), (5, .int (zI a5)), (6, .int (zI v6))] [] := by
  intro n
  induction n with
  | zero => intro v6 m_ h; cases h
  | succ n ih =>
    intro v6 m_ h
    replace h : FX6_copy_L96_B a1 a2 a3 a4 a5 k (FX6_copy_L96 a1 a2 a3 a4 a5 k n) v6 m_ = some (r0, m0) := h
    unfold FX6_copy_L96_B at h
    refine z_iload (pc := 96) hX 6 dX6_copy_96 rfl ?_
    refine z_iload (pc := 98) hX 5 dX6_copy_98 rfl ?_
    refine z_icmp_ge (pc := 100) (tgt := 130) hX dX6_copy_100 (by decide) (fun hc13 => ?_) (fun hc13 => ?_)
    · replace h := (if_neg hc13).symm.trans h
      exact hk _ _ h
    · replace h := (if_pos hc13).symm.trans h
      refine z_aload_n (pc := 103) hX 0 dX6_copy_103 rfl rfl ?_
      refine z_get (pc := 104) (c := 0) (j := 11) (v := .ref (ad 9)) hX rfl zfl_RX6_35 (Nat.le_of_ble_eq_true rfl) (zMod_e (ca := ca) (f := m_ 0)) rfl dX6_copy_104 ?_
      refine z_iload (pc := 107) hX 6 dX6_copy_107 rfl ?_
      refine z_aload_n (pc := 109) hX 0 dX6_copy_109 rfl rfl ?_
      refine z_get (pc := 110) (c := 0) (j := 10) (v := .ref (ad 8)) hX rfl zfl_RX6_31 (Nat.le_of_ble_eq_true rfl) (zMod_e (ca := ca) (f := m_ 0)) rfl dX6_copy_110 ?_
      refine z_bipush (pc := 113) hX dX6_copy_113 (by decide +kernel) ?_
      refine z_iload_n (pc := 115) hX 1 dX6_copy_115 rfl rfl ?_
      refine z_imul (pc := 116) hX dX6_copy_116 ?_
      refine z_iload_n (pc := 117) hX 2 dX6_copy_117 rfl rfl ?_
      refine z_iadd (pc := 118) hX dX6_copy_118 ?_
      refine z_iload (pc := 119) hX 6 dX6_copy_119 rfl ?_
      refine z_iadd (pc := 121) hX dX6_copy_121 ?_
      obtain ⟨x11, hx11, hi11, h⟩ := zrd_s h
      refine z_lald (pc := 122) (c := 8) hX zMi8 hi11 hx11 dX6_copy_122 ?_
      obtain ⟨m12, hm12, hi12, h⟩ := zwr_s h
      refine z_last (pc := 123) (c := 9) hX zMi9 hi12 hm12 dX6_copy_123 ?_
      refine z_iinc (pc := 124) (lv' := [(6, .int (zI (v6 + 1))), (0, .ref (ad 0)), (1, .int (zI a1)), (2, .int (zI a2)), (3, .int (zI a3)), (4, .int (zI a4)), (5, .int (zI a5))]) hX 6 dX6_copy_124 rfl (by decide) rfl ?_
      refine z_goto (pc := 127) (tgt := 96) hX dX6_copy_127 (by decide) ?_
      refine z_sub [1, 2, 3, 4, 5, 6, 0] rfl ?_
      exact ih _ _ h
set_option maxRecDepth 20000 in
set_option maxHeartbeats 4000000 in
theorem wX6_copy_L133 {X : zXT} {l : Launch} {D : va_G} {ca : Nat → ClassId} {ad : Nat → Nat} (hG : zGok (zGM D ca ad)) {a1 : Int} {a2 : Int} {a3 : Int} {a4 : Int} {a5 : Int}  {r0 : Int} {m0 : zM}  (hX : zC X l rmX6_copy (zGM D ca ad) (some (.int (zI r0))) m0 cX6_copy 7 RX6 (some .int)) {k : Int → zM → Option (Int × zM)} (hk : ∀ (v6 : Int) (m_ : zM), k v6 m_ = some (r0, m0) → zV X 7 m_ 168 [(0, .ref (ad 0)), (3, .int (zI a3)), (4, .int (zI a4)), (5, .int (zI a5)), (6, .int (zI v6))] []) : ∀ (n : Nat) (v6 : Int) (m_ : zM), FX6_copy_L133 a1 a2 a3 a4 a5 k n v6 m_ = some (r0, m0) → zV X 7 m_ 133 [(0, .ref (ad 0)), (3, .int (zI a3)), (4, .int (zI a4)), (5, .int (zI a5)), (6, .int (zI v6))] [] := by
  intro n
  induction n with
  | zero => intro v6 m_ h; cases h
  | succ n ih =>
    intro v6 m_ h
    replace h : FX6_copy_L133_B a1 a2 a3 a4 a5 k (FX6_copy_L133 a1 a2 a3 a4 a5 k n) v6 m_ = some (r0, m0) := h
    unfold FX6_copy_L133_B at h
    refine z_iload (pc := 133) hX 4 dX6_copy_133 rfl ?_
    refine z_iload (pc := 135) hX 3 dX6_copy_135 rfl ?_
    refine z_icmp_ge (pc := 137) (tgt := 168) hX dX6_copy_137 (by decide) (fun hc16 => ?_) (fun hc16 => ?_)
    · replace h := (if_neg hc16).symm.trans h
      exact hk _ _ h
    · replace h := (if_pos hc16).symm.trans h
      refine z_aload_n (pc := 140) hX 0 dX6_copy_140 rfl rfl ?_
      refine z_get (pc := 141) (c := 0) (j := 10) (v := .ref (ad 8)) hX rfl zfl_RX6_31 (Nat.le_of_ble_eq_true rfl) (zMod_e (ca := ca) (f := m_ 0)) rfl dX6_copy_141 ?_
      refine z_bipush (pc := 144) hX dX6_copy_144 (by decide +kernel) ?_
      refine z_iload_n (pc := 146) hX 1 dX6_copy_146 rfl rfl ?_
      refine z_imul (pc := 147) hX dX6_copy_147 ?_
      refine z_iload (pc := 148) hX 2 dX6_copy_148 rfl ?_
      refine z_iadd (pc := 150) hX dX6_copy_150 ?_
      refine z_iload (pc := 151) hX 4 dX6_copy_151 rfl ?_
      refine z_iadd (pc := 153) hX dX6_copy_153 ?_
      refine z_aload_n (pc := 154) hX 0 dX6_copy_154 rfl rfl ?_
      refine z_get (pc := 155) (c := 0) (j := 11) (v := .ref (ad 9)) hX rfl zfl_RX6_35 (Nat.le_of_ble_eq_true rfl) (zMod_e (ca := ca) (f := m_ 0)) rfl dX6_copy_155 ?_
      refine z_iload (pc := 158) hX 4 dX6_copy_158 rfl ?_
      obtain ⟨x14, hx14, hi14, h⟩ := zrd_s h
      refine z_lald (pc := 160) (c := 9) hX zMi9 hi14 hx14 dX6_copy_160 ?_
      obtain ⟨m15, hm15, hi15, h⟩ := zwr_s h
      refine z_last (pc := 161) (c := 8) hX zMi8 hi15 hm15 dX6_copy_161 ?_
      refine z_iinc (pc := 162) (lv' := [(6, .int (zI (v6 + 1))), (0, .ref (ad 0)), (3, .int (zI a3)), (4, .int (zI a4)), (5, .int (zI a5))]) hX 4 dX6_copy_162 rfl (by decide) rfl ?_
      refine z_goto (pc := 165) (tgt := 133) hX dX6_copy_165 (by decide) ?_
      refine z_sub [1, 2, 3, 4, 0] rfl ?_
      exact ih _ _ h
set_option maxRecDepth 20000 in
set_option maxHeartbeats 4000000 in
theorem wX6_copy {l : Launch} {D : va_G} {ca : Nat → ClassId} {ad : Nat → Nat} (hG : zGok (zGM D ca ad)) {a1 : Int} {a2 : Int} {a3 : Int} {a4 : Int} {a5 : Int} {r0 : Int} {m0 : zM} {m : zM} (h : FX6_copy a1 a2 a3 a4 a5 m = some (r0, m0)) : zCt l (zGM D ca ad) yX6_copy cX6_copy 7 (some .int) rmX6_copy [.ref (ad 0), .int (zI a1), .int (zI a2), .int (zI a3), .int (zI a4), .int (zI a5)] m (some (.int (zI r0))) m0 := by
  unfold FX6_copy at h
  refine z_of (plainFor_of_name (by decide +kernel)) hG (Nat.le_of_ble_eq_true rfl) (fun X hX => ?_)
  show zV X 7 m 0 [(0, .ref (ad 0)), (1, .int (zI a1)), (2, .int (zI a2)), (3, .int (zI a3)), (4, .int (zI a4)), (5, .int (zI a5))] []
  refine z_iload_n (pc := 0) hX 1 dX6_copy_0 rfl rfl ?_
  obtain ⟨r1, hr1, h⟩ := zcl_s h
  refine z_callSr (pc := 1) hX [.int (zI a1)] [] (wX6_isSheet (ca := ca) hG  hr1) zms_RX6_174 rfl rfl ⟨rfl, rfl⟩ ⟨by decide, by decide⟩ (Nat.le_of_ble_eq_true rfl) dX6_copy_1 ?_
  refine z_if_eq (pc := 4) (tgt := 14) hX dX6_copy_4 (by decide) (fun hc23 => ?_) (fun hc23 => ?_)
  · replace h := (if_pos hc23).symm.trans h
    refine z_iconst (pc := 14) hX dX6_copy_14 ?_
    exact z_iret (pc := 15) hX rfl rfl (Prod.mk.inj (Option.some.inj h)).1 (Prod.mk.inj (Option.some.inj h)).2 dX6_copy_15
  · replace h := (if_neg hc23).symm.trans h
    refine z_iload_n (pc := 7) hX 3 dX6_copy_7 rfl rfl ?_
    obtain ⟨r2, hr2, h⟩ := zcl_s h
    refine z_callSr (pc := 8) hX [.int (zI a3)] [] (wX6_isSheet (ca := ca) hG  hr2) zms_RX6_174 rfl rfl ⟨rfl, rfl⟩ ⟨by decide, by decide⟩ (Nat.le_of_ble_eq_true rfl) dX6_copy_8 ?_
    refine z_if_ne (pc := 11) (tgt := 16) hX dX6_copy_11 (by decide) (fun hc22 => ?_) (fun hc22 => ?_)
    · replace h := (if_neg hc22).symm.trans h
      refine z_aload_n (pc := 16) hX 0 dX6_copy_16 rfl rfl ?_
      refine z_get (pc := 17) (c := 0) (j := 8) (v := .ref (ad 6)) hX rfl zfl_RX6_25 (Nat.le_of_ble_eq_true rfl) (zMod_e (ca := ca) (f := m 0)) rfl dX6_copy_17 ?_
      refine z_iload_n (pc := 20) hX 1 dX6_copy_20 rfl rfl ?_
      obtain ⟨x3, hx3, hi3, h⟩ := zrd_s h
      refine z_iald (pc := 21) (c := 6) hX zMi6 hi3 hx3 dX6_copy_21 ?_
      refine z_if_lt (pc := 22) (tgt := 34) hX dX6_copy_22 (by decide) (fun hc21 => ?_) (fun hc21 => ?_)
      · replace h := (if_pos hc21).symm.trans h
        refine z_bipush (pc := 34) hX dX6_copy_34 (by decide +kernel) ?_
        exact z_iret (pc := 36) hX rfl rfl (Prod.mk.inj (Option.some.inj h)).1 (Prod.mk.inj (Option.some.inj h)).2 dX6_copy_36
      · replace h := (if_neg hc21).symm.trans h
        refine z_aload_n (pc := 25) hX 0 dX6_copy_25 rfl rfl ?_
        refine z_get (pc := 26) (c := 0) (j := 8) (v := .ref (ad 6)) hX rfl zfl_RX6_25 (Nat.le_of_ble_eq_true rfl) (zMod_e (ca := ca) (f := m 0)) rfl dX6_copy_26 ?_
        refine z_iload_n (pc := 29) hX 3 dX6_copy_29 rfl rfl ?_
        obtain ⟨x4, hx4, hi4, h⟩ := zrd_s h
        refine z_iald (pc := 30) (c := 6) hX zMi6 hi4 hx4 dX6_copy_30 ?_
        refine z_if_ge (pc := 31) (tgt := 37) hX dX6_copy_31 (by decide) (fun hc20 => ?_) (fun hc20 => ?_)
        · replace h := (if_neg hc20).symm.trans h
          refine z_aload_n (pc := 37) hX 0 dX6_copy_37 rfl rfl ?_
          refine z_get (pc := 38) (c := 0) (j := 8) (v := .ref (ad 6)) hX rfl zfl_RX6_25 (Nat.le_of_ble_eq_true rfl) (zMod_e (ca := ca) (f := m 0)) rfl dX6_copy_38 ?_
          refine z_iload_n (pc := 41) hX 1 dX6_copy_41 rfl rfl ?_
          obtain ⟨x5, hx5, hi5, h⟩ := zrd_s h
          refine z_iald (pc := 42) (c := 6) hX zMi6 hi5 hx5 dX6_copy_42 ?_
          refine z_aload_n (pc := 43) hX 0 dX6_copy_43 rfl rfl ?_
          refine z_get (pc := 44) (c := 0) (j := 8) (v := .ref (ad 6)) hX rfl zfl_RX6_25 (Nat.le_of_ble_eq_true rfl) (zMod_e (ca := ca) (f := m 0)) rfl dX6_copy_44 ?_
          refine z_iload_n (pc := 47) hX 3 dX6_copy_47 rfl rfl ?_
          obtain ⟨x6, hx6, hi6, h⟩ := zrd_s h
          refine z_iald (pc := 48) (c := 6) hX zMi6 hi6 hx6 dX6_copy_48 ?_
          refine z_icmp_eq (pc := 49) (tgt := 55) hX dX6_copy_49 (by decide) (fun hc19 => ?_) (fun hc19 => ?_)
          · replace h := (if_pos hc19).symm.trans h
            refine z_aload_n (pc := 55) hX 0 dX6_copy_55 rfl rfl ?_
            refine z_iload_n (pc := 56) hX 1 dX6_copy_56 rfl rfl ?_
            refine z_aload_n (pc := 57) hX 0 dX6_copy_57 rfl rfl ?_
            refine z_get (pc := 58) (c := 0) (j := 8) (v := .ref (ad 6)) hX rfl zfl_RX6_25 (Nat.le_of_ble_eq_true rfl) (zMod_e (ca := ca) (f := m 0)) rfl dX6_copy_58 ?_
            refine z_iload_n (pc := 61) hX 1 dX6_copy_61 rfl rfl ?_
            obtain ⟨x7, hx7, hi7, h⟩ := zrd_s h
            refine z_iald (pc := 62) (c := 6) hX zMi6 hi7 hx7 dX6_copy_62 ?_
            refine z_iload_n (pc := 63) hX 2 dX6_copy_63 rfl rfl ?_
            refine z_iload (pc := 64) hX 5 dX6_copy_64 rfl ?_
            obtain ⟨r8, hr8, h⟩ := zcl_s h
            refine z_callVr (pc := 66) (c := 0) hX [.int (zI a1), .int (zI x7), .int (zI a2), .int (zI a5)] [] (wX6_whyNot (ca := ca) hG  hr8) rfl zmv_RX6_181 (Nat.le_of_ble_eq_true rfl) (zMod_e (ca := ca) (f := m 0)) rfl rfl ⟨rfl, rfl⟩ ⟨by decide, by decide⟩ (Nat.le_of_ble_eq_true rfl) dX6_copy_66 ?_
            refine z_if_ne (pc := 69) (tgt := 90) hX dX6_copy_69 (by decide) (fun hc18 => ?_) (fun hc18 => ?_)
            · replace h := (if_neg hc18).symm.trans h
              refine z_bipush (pc := 90) hX dX6_copy_90 (by decide +kernel) ?_
              exact z_iret (pc := 92) hX rfl rfl (Prod.mk.inj (Option.some.inj h)).1 (Prod.mk.inj (Option.some.inj h)).2 dX6_copy_92
            · replace h := (if_pos hc18).symm.trans h
              refine z_aload_n (pc := 72) hX 0 dX6_copy_72 rfl rfl ?_
              refine z_iload_n (pc := 73) hX 3 dX6_copy_73 rfl rfl ?_
              refine z_aload_n (pc := 74) hX 0 dX6_copy_74 rfl rfl ?_
              refine z_get (pc := 75) (c := 0) (j := 8) (v := .ref (ad 6)) hX rfl zfl_RX6_25 (Nat.le_of_ble_eq_true rfl) (zMod_e (ca := ca) (f := m 0)) rfl dX6_copy_75 ?_
              refine z_iload_n (pc := 78) hX 3 dX6_copy_78 rfl rfl ?_
              obtain ⟨x9, hx9, hi9, h⟩ := zrd_s h
              refine z_iald (pc := 79) (c := 6) hX zMi6 hi9 hx9 dX6_copy_79 ?_
              refine z_iload (pc := 80) hX 4 dX6_copy_80 rfl ?_
              refine z_iload (pc := 82) hX 5 dX6_copy_82 rfl ?_
              obtain ⟨r10, hr10, h⟩ := zcl_s h
              refine z_callVr (pc := 84) (c := 0) hX [.int (zI a3), .int (zI x9), .int (zI a4), .int (zI a5)] [] (wX6_whyNot (ca := ca) hG  hr10) rfl zmv_RX6_181 (Nat.le_of_ble_eq_true rfl) (zMod_e (ca := ca) (f := m 0)) rfl rfl ⟨rfl, rfl⟩ ⟨by decide, by decide⟩ (Nat.le_of_ble_eq_true rfl) dX6_copy_84 ?_
              refine z_if_eq (pc := 87) (tgt := 93) hX dX6_copy_87 (by decide) (fun hc17 => ?_) (fun hc17 => ?_)
              · replace h := (if_pos hc17).symm.trans h
                refine z_iconst (pc := 93) hX dX6_copy_93 ?_
                refine z_istore (pc := 94) (lv' := [(6, .int (zI 0)), (0, .ref (ad 0)), (1, .int (zI a1)), (2, .int (zI a2)), (3, .int (zI a3)), (4, .int (zI a4)), (5, .int (zI a5))]) hX dX6_copy_94 (by decide) rfl ?_
                refine z_sub [1, 2, 3, 4, 5, 6, 0] rfl ?_
                refine wX6_copy_L96 hG  hX (fun y96_6 m96_ h => ?_) _ _ _ h
                refine z_iconst (pc := 130) hX dX6_copy_130 ?_
                refine z_istore (pc := 131) (lv' := [(6, .int (zI 0)), (0, .ref (ad 0)), (1, .int (zI a1)), (2, .int (zI a2)), (3, .int (zI a3)), (4, .int (zI a4)), (5, .int (zI a5))]) hX dX6_copy_131 (by decide) rfl ?_
                refine z_sub [1, 4, 5, 6, 0] rfl ?_
                refine wX6_copy_L133 hG  hX (fun y133_6 m133_ h => ?_) _ _ _ h
                refine z_iload (pc := 168) hX 3 dX6_copy_168 rfl ?_
                exact z_iret (pc := 170) hX rfl rfl (Prod.mk.inj (Option.some.inj h)).1 (Prod.mk.inj (Option.some.inj h)).2 dX6_copy_170
              · replace h := (if_neg hc17).symm.trans h
                refine z_bipush (pc := 90) hX dX6_copy_90 (by decide +kernel) ?_
                exact z_iret (pc := 92) hX rfl rfl (Prod.mk.inj (Option.some.inj h)).1 (Prod.mk.inj (Option.some.inj h)).2 dX6_copy_92
          · replace h := (if_neg hc19).symm.trans h
            refine z_bipush (pc := 52) hX dX6_copy_52 (by decide +kernel) ?_
            exact z_iret (pc := 54) hX rfl rfl (Prod.mk.inj (Option.some.inj h)).1 (Prod.mk.inj (Option.some.inj h)).2 dX6_copy_54
        · replace h := (if_pos hc20).symm.trans h
          refine z_bipush (pc := 34) hX dX6_copy_34 (by decide +kernel) ?_
          exact z_iret (pc := 36) hX rfl rfl (Prod.mk.inj (Option.some.inj h)).1 (Prod.mk.inj (Option.some.inj h)).2 dX6_copy_36
    · replace h := (if_pos hc22).symm.trans h
      refine z_iconst (pc := 14) hX dX6_copy_14 ?_
      exact z_iret (pc := 15) hX rfl rfl (Prod.mk.inj (Option.some.inj h)).1 (Prod.mk.inj (Option.some.inj h)).2 dX6_copy_15
