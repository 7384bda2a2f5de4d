def rmX6_stands : Room := { frames := 1, cells := 0, slots := 0, locals := 25 }
set_option maxRecDepth 20000 in
set_option maxHeartbeats 4000000 in
theorem wX6_stands_L9 {X : zXT} {l : Launch} {D : va_G} {ca : Nat → ClassId} {ad : Nat → Nat} (hG : zGok (zGM D ca ad)) {a1 : Int} {a2 : Int} {a3 : Int}  {r0 : Int} {m : zM}  (hX : zC X l rmX6_stands (zGM D ca ad) (some (.int (zI r0))) m cX6_stands 8 RX6 (some .int)) {k : Int → Int → Int → Option (Int)} (hk : ∀ (v4 : Int) (v5 : Int) (v6 : Int), k v4 v5 v6 = some r0 → zV X 8 m 65 [(0, .ref (ad 0)), (1, .int (zI a1)), (2, .int (zI a2)), (3, .int (zI a3)), (4, .int (zI v4)), (5, .int (zI v5)), (6, .int (zI v6))] []) : ∀ (n : Nat) (v4 : Int) (v5 : Int) (v6 : Int), FX6_stands_L9 a1 a2 a3 m k n v4 v5 v6 = some r0 → zV X 8 m 9 [(0, .ref (ad 0)), (1, .int (zI a1)), (2, .int (zI a2)), (3, .int (zI a3)), (4, .int (zI v4)), (5, .int (zI v5)), (6, .int (zI v6))] [] := by
  intro n
  induction n with
  | zero => intro v4 v5 v6 h; cases h
  | succ n ih =>
    intro v4 v5 v6 h
    replace h : FX6_stands_L9_B a1 a2 a3 m k (FX6_stands_L9 a1 a2 a3 m k n) v4 v5 v6 = some r0 := h
    unfold FX6_stands_L9_B at h
    refine z_iload (pc := 9) hX 6 dX6_stands_9 rfl ?_
    refine z_iload_n (pc := 11) hX 2 dX6_stands_11 rfl rfl ?_
    refine z_iadd (pc := 12) hX dX6_stands_12 ?_
    refine z_aload_n (pc := 13) hX 0 dX6_stands_13 rfl rfl ?_
    refine z_get (pc := 14) (c := 0) (j := 0) (v := .int (zI (m 0 0))) hX rfl zfl_RX6_69 (Nat.le_of_ble_eq_true rfl) (zMod_e (ca := ca) (f := m 0)) rfl dX6_stands_14 ?_
    refine z_icmp_gt (pc := 17) (tgt := 65) hX dX6_stands_17 (by decide) (fun hc4 => ?_) (fun hc4 => ?_)
    · replace h := (if_pos hc4).symm.trans h
      exact hk _ _ _ h
    · replace h := (if_neg hc4).symm.trans h
      refine z_aload_n (pc := 20) hX 0 dX6_stands_20 rfl rfl ?_
      refine z_iload (pc := 21) hX 6 dX6_stands_21 rfl ?_
      refine z_iload_n (pc := 23) hX 1 dX6_stands_23 rfl rfl ?_
      refine z_iload_n (pc := 24) hX 2 dX6_stands_24 rfl rfl ?_
      obtain ⟨r1, hr1, h⟩ := zcl_s h
      refine z_callVr (pc := 25) (c := 0) hX [.int (zI v6), .int (zI a1), .int (zI a2)] [] (wX6_isSame (ca := ca) hG  hr1) rfl zmv_RX6_61 (Nat.le_of_ble_eq_true rfl) (zMod_e (ca := ca) (f := m 0)) rfl rfl ⟨rfl, rfl⟩ ⟨by decide, by decide⟩ (Nat.le_of_ble_eq_true rfl) dX6_stands_25 ?_
      refine z_istore (pc := 28) (lv' := [(7, .int (zI r1)), (0, .ref (ad 0)), (1, .int (zI a1)), (2, .int (zI a2)), (3, .int (zI a3)), (4, .int (zI v4)), (5, .int (zI v5)), (6, .int (zI v6))]) hX dX6_stands_28 (by decide) rfl ?_
      refine z_iload (pc := 30) hX 5 dX6_stands_30 rfl ?_
      refine z_iload (pc := 32) hX 0 dX6_stands_32 rfl ?_
      obtain ⟨j42, hj42, h⟩ := zjn_s h (fun (j : Int → Option (Int)) => ∀ (s42_0 : Int), j s42_0 = some r0 → zV X 8 m 42 [(0, .ref (ad 0)), (1, .int (zI a1)), (2, .int (zI a2)), (3, .int (zI a3)), (5, .int (zI v5)), (6, .int (zI v6)), (7, .int (zI r1))] [.int (zI s42_0), .int (zI v4)]) (fun s42_0 h => by
          refine z_iadd (pc := 42) hX dX6_stands_42 ?_
          refine z_istore (pc := 43) (lv' := [(4, .int (zI (v4 + s42_0))), (0, .ref (ad 0)), (1, .int (zI a1)), (2, .int (zI a2)), (3, .int (zI a3)), (5, .int (zI v5)), (6, .int (zI v6)), (7, .int (zI r1))]) hX dX6_stands_43 (by decide) rfl ?_
          refine z_iload (pc := 45) hX 7 dX6_stands_45 rfl ?_
          refine z_if_eq (pc := 47) (tgt := 55) hX dX6_stands_47 (by decide) (fun hc2 => ?_) (fun hc2 => ?_)
          · replace h := (if_pos hc2).symm.trans h
            refine z_iload (pc := 55) hX 5 dX6_stands_55 rfl ?_
            refine z_istore (pc := 57) (lv' := [(5, .int (zI v5)), (4, .int (zI (v4 + s42_0))), (0, .ref (ad 0)), (1, .int (zI a1)), (2, .int (zI a2)), (3, .int (zI a3)), (6, .int (zI v6)), (7, .int (zI r1))]) hX dX6_stands_57 (by decide) rfl ?_
            refine z_iinc (pc := 59) (lv' := [(6, .int (zI (v6 + 1))), (5, .int (zI v5)), (4, .int (zI (v4 + s42_0))), (0, .ref (ad 0)), (1, .int (zI a1)), (2, .int (zI a2)), (3, .int (zI a3)), (7, .int (zI r1))]) hX 6 dX6_stands_59 rfl (by decide) rfl ?_
            refine z_goto (pc := 62) (tgt := 9) hX dX6_stands_62 (by decide) ?_
            refine z_sub [3, 4, 5, 6, 2, 1, 0] rfl ?_
            exact ih _ _ _ h
          · replace h := (if_neg hc2).symm.trans h
            refine z_iload (pc := 50) hX 6 dX6_stands_50 rfl ?_
            refine z_goto (pc := 52) (tgt := 57) hX dX6_stands_52 (by decide) ?_
            refine z_istore (pc := 57) (lv' := [(5, .int (zI v6)), (4, .int (zI (v4 + s42_0))), (0, .ref (ad 0)), (1, .int (zI a1)), (2, .int (zI a2)), (3, .int (zI a3)), (6, .int (zI v6)), (7, .int (zI r1))]) hX dX6_stands_57 (by decide) rfl ?_
            refine z_iinc (pc := 59) (lv' := [(6, .int (zI (v6 + 1))), (5, .int (zI v6)), (4, .int (zI (v4 + s42_0))), (0, .ref (ad 0)), (1, .int (zI a1)), (2, .int (zI a2)), (3, .int (zI a3)), (7, .int (zI r1))]) hX 6 dX6_stands_59 rfl (by decide) rfl ?_
            refine z_goto (pc := 62) (tgt := 9) hX dX6_stands_62 (by decide) ?_
            refine z_sub [3, 4, 5, 6, 2, 1, 0] rfl ?_
            exact ih _ _ _ h
          )
      refine z_if_eq (pc := 34) (tgt := 41) hX dX6_stands_34 (by decide) (fun hc3 => ?_) (fun hc3 => ?_)
      · replace h := (if_pos hc3).symm.trans h
        refine z_iconst (pc := 41) hX dX6_stands_41 ?_
        refine z_sub [1, 2, 3, 4, 6, 7, 0] rfl ?_
        exact hj42 _ h
      · replace h := (if_neg hc3).symm.trans h
        refine z_iconst (pc := 37) hX dX6_stands_37 ?_
        refine z_goto (pc := 38) (tgt := 42) hX dX6_stands_38 (by decide) ?_
        refine z_sub [1, 2, 3, 4, 6, 7, 0] rfl ?_
        exact hj42 _ h
set_option maxRecDepth 20000 in
set_option maxHeartbeats 4000000 in
theorem wX6_stands {l : Launch} {D : va_G} {ca : Nat → ClassId} {ad : Nat → Nat} (hG : zGok (zGM D ca ad)) {a1 : Int} {a2 : Int} {a3 : Int} {r0 : Int} {m : zM} (h : FX6_stands a1 a2 a3 m = some r0) : zCt l (zGM D ca ad) yX6_stands cX6_stands 8 (some .int) rmX6_stands [.ref (ad 0), .int (zI a1), .int (zI a2), .int (zI a3)] m (some (.int (zI r0))) m := by
  unfold FX6_stands at h
  refine z_of (plainFor_of_name (by decide +kernel)) hG (Nat.le_of_ble_eq_true rfl) (fun X hX => ?_)
  show zV X 8 m 0 [(0, .ref (ad 0)), (1, .int (zI a1)), (2, .int (zI a2)), (3, .int (zI a3))] []
  refine z_iconst (pc := 0) hX dX6_stands_0 ?_
  refine z_istore (pc := 1) (lv' := [(4, .int (zI 0)), (0, .ref (ad 0)), (1, .int (zI a1)), (2, .int (zI a2)), (3, .int (zI a3))]) hX dX6_stands_1 (by decide) rfl ?_
  refine z_iload_n (pc := 3) hX 2 dX6_stands_3 rfl rfl ?_
  refine z_istore (pc := 4) (lv' := [(5, .int (zI a1)), (4, .int (zI 0)), (0, .ref (ad 0)), (1, .int (zI a1)), (2, .int (zI a2)), (3, .int (zI a3))]) hX dX6_stands_4 (by decide) rfl ?_
  refine z_iconst (pc := 6) hX dX6_stands_6 ?_
  refine z_istore (pc := 7) (lv' := [(6, .int (zI 0)), (5, .int (zI a1)), (4, .int (zI 0)), (0, .ref (ad 0)), (1, .int (zI a1)), (2, .int (zI a2)), (3, .int (zI a3))]) hX dX6_stands_7 (by decide) rfl ?_
  refine z_sub [3, 4, 5, 6, 2, 1, 0] rfl ?_
  refine wX6_stands_L9 hG  hX (fun y9_4 y9_5 y9_6 h => ?_) _ _ _ _ h
  refine z_iload_n (pc := 65) hX 3 dX6_stands_65 rfl rfl ?_
  refine z_iconst (pc := 66) hX dX6_stands_66 ?_
  refine z_icmp_ne (pc := 67) (tgt := 75) hX dX6_stands_67 (by decide) (fun hc5 => ?_) (fun hc5 => ?_)
  · replace h := (if_neg hc5).symm.trans h
    refine z_iload (pc := 75) hX 5 dX6_stands_75 rfl ?_
    exact z_iret (pc := 77) hX rfl rfl (Option.some.inj h) rfl dX6_stands_77
  · replace h := (if_pos hc5).symm.trans h
    refine z_iload (pc := 70) hX 4 dX6_stands_70 rfl ?_
    refine z_goto (pc := 72) (tgt := 77) hX dX6_stands_72 (by decide) ?_
    exact z_iret (pc := 77) hX rfl rfl (Option.some.inj h) rfl dX6_stands_77
def rmX6_ofAll : Room := { frames := 2, cells := 0, slots := 0, locals := 52 }
set_option maxRecDepth 20000 in
set_option maxHeartbeats 4000000 in
theorem wX6_ofAll_L7 {X : zXT} {l : Launch} {D : va_G} {ca : Nat → ClassId} {ad : Nat → Nat} (hG : zGok (zGM D ca ad)) {a1 : Int}  {r0 : Int} {m : zM}  (hX : zC X l rmX6_ofAll (zGM D ca ad) (some (.int (zI r0))) m cX6_ofAll 5 RX6 (some .int)) {k : Int → Int → Int → Option (Int)} (hk : ∀ (v2 : Int) (v3 : Int) (v4 : Int), k v2 v3 v4 = some r0 → zV X 5 m 86 [(0, .ref (ad 0)), (1, .int (zI a1)), (2, .int (zI v2)), (3, .int (zI v3)), (4, .int (zI v4))] []) : ∀ (n : Nat) (v2 : Int) (v3 : Int) (v4 : Int), FX6_ofAll_L7 a1 m k n v2 v3 v4 = some r0 → zV X 5 m 7 [(0, .ref (ad 0)), (1, .int (zI a1)), (2, .int (zI v2)), (3, .int (zI v3)), (4, .int (zI v4))] [] := by
  intro n
  induction n with
  | zero => intro v2 v3 v4 h; cases h
  | succ n ih =>
    intro v2 v3 v4 h
    replace h : FX6_ofAll_L7_B a1 m k (FX6_ofAll_L7 a1 m k n) v2 v3 v4 = some r0 := h
    unfold FX6_ofAll_L7_B at h
    refine z_iload (pc := 7) hX 4 dX6_ofAll_7 rfl ?_
    refine z_aload_n (pc := 9) hX 0 dX6_ofAll_9 rfl rfl ?_
    refine z_get (pc := 10) (c := 0) (j := 12) (v := .int (zI (m 0 12))) hX rfl zfl_RX6_65 (Nat.le_of_ble_eq_true rfl) (zMod_e (ca := ca) (f := m 0)) rfl dX6_ofAll_10 ?_
    refine z_icmp_ge (pc := 13) (tgt := 86) hX dX6_ofAll_13 (by decide) (fun hc10 => ?_) (fun hc10 => ?_)
    · replace h := (if_neg hc10).symm.trans h
      exact hk _ _ _ h
    · replace h := (if_pos hc10).symm.trans h
      refine z_iload_n (pc := 16) hX 2 dX6_ofAll_16 rfl rfl ?_
      refine z_iload_n (pc := 17) hX 1 dX6_ofAll_17 rfl rfl ?_
      refine z_iconst (pc := 18) hX dX6_ofAll_18 ?_
      obtain ⟨j55, hj55, h⟩ := zjn_s h (fun (j : Int → Option (Int)) => ∀ (s55_0 : Int), j s55_0 = some r0 → zV X 5 m 55 [(0, .ref (ad 0)), (1, .int (zI a1)), (3, .int (zI v3)), (4, .int (zI v4))] [.int (zI s55_0), .int (zI v2)]) (fun s55_0 h => by
          refine z_iadd (pc := 55) hX dX6_ofAll_55 ?_
          refine z_istore_n (pc := 56) (lv' := [(2, .int (zI (v2 + s55_0))), (0, .ref (ad 0)), (1, .int (zI a1)), (3, .int (zI v3)), (4, .int (zI v4))]) hX dX6_ofAll_56 rfl (by decide) rfl ?_
          refine z_aload_n (pc := 57) hX 1 dX6_ofAll_57 rfl rfl ?_
          refine z_get (pc := 58) (c := 0) (j := 14) (v := .ref (ad 11)) hX rfl zfl_RX6_41 (Nat.le_of_ble_eq_true rfl) (zMod_e (ca := ca) (f := m 0)) rfl dX6_ofAll_58 ?_
          refine z_iload (pc := 61) hX 4 dX6_ofAll_61 rfl ?_
          obtain ⟨x1, hx1, hi1, h⟩ := zrd_s h
          refine z_iald (pc := 63) (c := 11) hX zMi11 hi1 hx1 dX6_ofAll_63 ?_
          refine z_iload_n (pc := 64) hX 3 dX6_ofAll_64 rfl rfl ?_
          refine z_icmp_le (pc := 65) (tgt := 78) hX dX6_ofAll_65 (by decide) (fun hc3 => ?_) (fun hc3 => ?_)
          · replace h := (if_neg hc3).symm.trans h
            refine z_iload_n (pc := 78) hX 3 dX6_ofAll_78 rfl rfl ?_
            refine z_istore_n (pc := 79) (lv' := [(3, .int (zI v3)), (2, .int (zI (v2 + s55_0))), (0, .ref (ad 0)), (1, .int (zI a1)), (4, .int (zI v4))]) hX dX6_ofAll_79 rfl (by decide) rfl ?_
            refine z_iinc (pc := 80) (lv' := [(4, .int (zI (v4 + 1))), (3, .int (zI v3)), (2, .int (zI (v2 + s55_0))), (0, .ref (ad 0)), (1, .int (zI a1))]) hX 4 dX6_ofAll_80 rfl (by decide) rfl ?_
            refine z_goto (pc := 83) (tgt := 7) hX dX6_ofAll_83 (by decide) ?_
            refine z_sub [3, 4, 2, 1, 0] rfl ?_
            exact ih _ _ _ h
          · replace h := (if_pos hc3).symm.trans h
            refine z_aload_n (pc := 68) hX 1 dX6_ofAll_68 rfl rfl ?_
            refine z_get (pc := 69) (c := 0) (j := 14) (v := .ref (ad 11)) hX rfl zfl_RX6_41 (Nat.le_of_ble_eq_true rfl) (zMod_e (ca := ca) (f := m 0)) rfl dX6_ofAll_69 ?_
            refine z_iload (pc := 72) hX 4 dX6_ofAll_72 rfl ?_
            obtain ⟨x2, hx2, hi2, h⟩ := zrd_s h
            refine z_iald (pc := 74) (c := 11) hX zMi11 hi2 hx2 dX6_ofAll_74 ?_
            refine z_goto (pc := 75) (tgt := 79) hX dX6_ofAll_75 (by decide) ?_
            refine z_istore_n (pc := 79) (lv' := [(3, .int (zI x2)), (2, .int (zI (v2 + s55_0))), (0, .ref (ad 0)), (1, .int (zI a1)), (4, .int (zI v4))]) hX dX6_ofAll_79 rfl (by decide) rfl ?_
            refine z_iinc (pc := 80) (lv' := [(4, .int (zI (v4 + 1))), (3, .int (zI x2)), (2, .int (zI (v2 + s55_0))), (0, .ref (ad 0)), (1, .int (zI a1))]) hX 4 dX6_ofAll_80 rfl (by decide) rfl ?_
            refine z_goto (pc := 83) (tgt := 7) hX dX6_ofAll_83 (by decide) ?_
            refine z_sub [3, 4, 2, 1, 0] rfl ?_
            exact ih _ _ _ h
          )
      refine z_icmp_ne (pc := 19) (tgt := 44) hX dX6_ofAll_19 (by decide) (fun hc9 => ?_) (fun hc9 => ?_)
      · replace h := (if_neg hc9).symm.trans h
        refine z_iconst (pc := 44) hX dX6_ofAll_44 ?_
        refine z_aload_n (pc := 45) hX 0 dX6_ofAll_45 rfl rfl ?_
        refine z_get (pc := 46) (c := 0) (j := 14) (v := .ref (ad 11)) hX rfl zfl_RX6_41 (Nat.le_of_ble_eq_true rfl) (zMod_e (ca := ca) (f := m 0)) rfl dX6_ofAll_46 ?_
        refine z_iload (pc := 49) hX 4 dX6_ofAll_49 rfl ?_
        obtain ⟨x4, hx4, hi4, h⟩ := zrd_s h
        refine z_iald (pc := 51) (c := 11) hX zMi11 hi4 hx4 dX6_ofAll_51 ?_
        refine z_iconst (pc := 52) hX dX6_ofAll_52 ?_
        obtain ⟨g5, h⟩ := zgd_s h
        refine z_irem (pc := 53) hX g5 dX6_ofAll_53 ?_
        refine z_isub (pc := 54) hX dX6_ofAll_54 ?_
        refine z_sub [0, 1, 3, 4] rfl ?_
        exact hj55 _ h
      · replace h := (if_pos hc9).symm.trans h
        refine z_aload_n (pc := 22) hX 0 dX6_ofAll_22 rfl rfl ?_
        refine z_aload_n (pc := 23) hX 0 dX6_ofAll_23 rfl rfl ?_
        refine z_get (pc := 24) (c := 0) (j := 13) (v := .ref (ad 10)) hX rfl zfl_RX6_38 (Nat.le_of_ble_eq_true rfl) (zMod_e (ca := ca) (f := m 0)) rfl dX6_ofAll_24 ?_
        refine z_iload (pc := 27) hX 4 dX6_ofAll_27 rfl ?_
        obtain ⟨x6, hx6, hi6, h⟩ := zrd_s h
        refine z_iald (pc := 29) (c := 10) hX zMi10 hi6 hx6 dX6_ofAll_29 ?_
        refine z_aload_n (pc := 30) hX 0 dX6_ofAll_30 rfl rfl ?_
        refine z_get (pc := 31) (c := 0) (j := 14) (v := .ref (ad 11)) hX rfl zfl_RX6_41 (Nat.le_of_ble_eq_true rfl) (zMod_e (ca := ca) (f := m 0)) rfl dX6_ofAll_31 ?_
        refine z_iload (pc := 34) hX 4 dX6_ofAll_34 rfl ?_
        obtain ⟨x7, hx7, hi7, h⟩ := zrd_s h
        refine z_iald (pc := 36) (c := 11) hX zMi11 hi7 hx7 dX6_ofAll_36 ?_
        refine z_iconst (pc := 37) hX dX6_ofAll_37 ?_
        obtain ⟨r8, hr8, h⟩ := zcl_s h
        refine z_callVr (pc := 38) (c := 0) hX [.int (zI x6), .int (zI x7), .int (zI 3)] [.int (zI v2)] (wX6_stands (ca := ca) hG  hr8) rfl zmv_RX6_116 (Nat.le_of_ble_eq_true rfl) (zMod_e (ca := ca) (f := m 0)) rfl rfl ⟨rfl, rfl⟩ ⟨by decide, by decide⟩ (Nat.le_of_ble_eq_true rfl) dX6_ofAll_38 ?_
        refine z_goto (pc := 41) (tgt := 55) hX dX6_ofAll_41 (by decide) ?_
        refine z_sub [0, 1, 3, 4] rfl ?_
        exact hj55 _ h
set_option maxRecDepth 20000 in
set_option maxHeartbeats 4000000 in
theorem wX6_ofAll {l : Launch} {D : va_G} {ca : Nat → ClassId} {ad : Nat → Nat} (hG : zGok (zGM D ca ad)) {a1 : Int} {r0 : Int} {m : zM} (h : FX6_ofAll a1 m = some r0) : zCt l (zGM D ca ad) yX6_ofAll cX6_ofAll 5 (some .int) rmX6_ofAll [.ref (ad 0), .int (zI a1)] m (some (.int (zI r0))) m := by
  unfold FX6_ofAll at h
  refine z_of (plainFor_of_name (by decide +kernel)) hG (Nat.le_of_ble_eq_true rfl) (fun X hX => ?_)
  show zV X 5 m 0 [(0, .ref (ad 0)), (1, .int (zI a1))] []
  refine z_iconst (pc := 0) hX dX6_ofAll_0 ?_
  refine z_istore_n (pc := 1) (lv' := [(2, .int (zI 0)), (0, .ref (ad 0)), (1, .int (zI a1))]) hX dX6_ofAll_1 rfl (by decide) rfl ?_
  refine z_iconst (pc := 2) hX dX6_ofAll_2 ?_
  refine z_istore_n (pc := 3) (lv' := [(3, .int (zI 0)), (2, .int (zI 0)), (0, .ref (ad 0)), (1, .int (zI a1))]) hX dX6_ofAll_3 rfl (by decide) rfl ?_
  refine z_iconst (pc := 4) hX dX6_ofAll_4 ?_
  refine z_istore (pc := 5) (lv' := [(4, .int (zI 0)), (3, .int (zI 0)), (2, .int (zI 0)), (0, .ref (ad 0)), (1, .int (zI a1))]) hX dX6_ofAll_5 (by decide) rfl ?_
  refine z_sub [3, 4, 2, 1, 0] rfl ?_
  refine wX6_ofAll_L7 hG  hX (fun y7_2 y7_3 y7_4 h => ?_) _ _ _ _ h
  refine z_iload_n (pc := 86) hX 1 dX6_ofAll_86 rfl rfl ?_
  refine z_iconst (pc := 87) hX dX6_ofAll_87 ?_
  refine z_icmp_ne (pc := 88) (tgt := 95) hX dX6_ofAll_88 (by decide) (fun hc11 => ?_) (fun hc11 => ?_)
  · replace h := (if_neg hc11).symm.trans h
    refine z_iload_n (pc := 95) hX 2 dX6_ofAll_95 rfl rfl ?_
    exact z_iret (pc := 96) hX rfl rfl (Option.some.inj h) rfl dX6_ofAll_96
  · replace h := (if_pos hc11).symm.trans h
    refine z_iload_n (pc := 91) hX 3 dX6_ofAll_91 rfl rfl ?_
    refine z_goto (pc := 92) (tgt := 96) hX dX6_ofAll_92 (by decide) ?_
    exact z_iret (pc := 96) hX rfl rfl (Option.some.inj h) rfl dX6_ofAll_96
def rmX6_count : Room := { frames := 4, cells := 0, slots := 0, locals := 93 }
set_option maxRecDepth 20000 in
set_option maxHeartbeats 4000000 in
theorem wX6_count {l : Launch} {D : va_G} {ca : Nat → ClassId} {ad : Nat → Nat} (hG : zGok (zGM D ca ad)) {a1 : Int} {r0 : Int} {m0 : zM} {m : zM} (h : FX6_count a1 m = some (r0, m0)) : zCt l (zGM D ca ad) yX6_count cX6_count 2 (some .int) rmX6_count [.ref (ad 0), .int (zI a1)] m (some (.int (zI r0))) m0 := by
  unfold FX6_count at h
  refine z_of (plainFor_of_name (by decide +kernel)) hG (Nat.le_of_ble_eq_true rfl) (fun X hX => ?_)
  show zV X 2 m 0 [(0, .ref (ad 0)), (1, .int (zI a1))] []
  refine z_aload_n (pc := 0) hX 0 dX6_count_0 rfl rfl ?_
  obtain ⟨m1, hr1, h⟩ := zcl_s h
  refine z_callVv (pc := 1) (v := .null) (c := 0) hX [] [] (wX6_lay (ca := ca) hG  hr1) rfl zmv_RX6_111 (Nat.le_of_ble_eq_true rfl) (zMod_e (ca := ca) (f := m 0)) rfl rfl ⟨rfl, rfl⟩ ⟨by decide, by decide⟩ (Nat.le_of_ble_eq_true rfl) dX6_count_1 ?_
  refine z_iload_n (pc := 4) hX 1 dX6_count_4 rfl rfl ?_
  by_cases hc2_0 : zI a1 = zI 0
  · replace h := (if_pos hc2_0).symm.trans h
    refine z_tswIn (pc := 5) (tgt := 52) (off := 47) hX 0 (by rw [hc2_0]; decide +kernel) dX6_count_5 rfl (by decide) ?_
    refine z_aload_n (pc := 52) hX 0 dX6_count_52 rfl rfl ?_
    refine z_get (pc := 53) (c := 0) (j := 0) (v := .int (zI (m1 0 0))) hX rfl zfl_RX6_69 (Nat.le_of_ble_eq_true rfl) (zMod_e (ca := ca) (f := m1 0)) rfl dX6_count_53 ?_
    exact z_iret (pc := 56) hX rfl rfl (Prod.mk.inj (Option.some.inj h)).1 (Prod.mk.inj (Option.some.inj h)).2 dX6_count_56
  · replace h := (if_neg hc2_0).symm.trans h
    by_cases hc2_1 : zI a1 = zI 1
    · replace h := (if_pos hc2_1).symm.trans h
      refine z_tswIn (pc := 5) (tgt := 57) (off := 52) hX 1 (by rw [hc2_1]; decide +kernel) dX6_count_5 rfl (by decide) ?_
      refine z_aload_n (pc := 57) hX 0 dX6_count_57 rfl rfl ?_
      refine z_get (pc := 58) (c := 0) (j := 12) (v := .int (zI (m1 0 12))) hX rfl zfl_RX6_65 (Nat.le_of_ble_eq_true rfl) (zMod_e (ca := ca) (f := m1 0)) rfl dX6_count_58 ?_
      exact z_iret (pc := 61) hX rfl rfl (Prod.mk.inj (Option.some.inj h)).1 (Prod.mk.inj (Option.some.inj h)).2 dX6_count_61
    · replace h := (if_neg hc2_1).symm.trans h
      by_cases hc2_2 : zI a1 = zI 2
      · replace h := (if_pos hc2_2).symm.trans h
        refine z_tswIn (pc := 5) (tgt := 62) (off := 57) hX 2 (by rw [hc2_2]; decide +kernel) dX6_count_5 rfl (by decide) ?_
        refine z_aload_n (pc := 62) hX 0 dX6_count_62 rfl rfl ?_
        refine z_iload_n (pc := 63) hX 1 dX6_count_63 rfl rfl ?_
        obtain ⟨r3, hr3, h⟩ := zcl_s h
        refine z_callVr (pc := 64) (c := 0) hX [.int (zI a1)] [] (wX6_ofAll (ca := ca) hG  hr3) rfl zmv_RX6_191 (Nat.le_of_ble_eq_true rfl) (zMod_e (ca := ca) (f := m1 0)) rfl rfl ⟨rfl, rfl⟩ ⟨by decide, by decide⟩ (Nat.le_of_ble_eq_true rfl) dX6_count_64 ?_
        exact z_iret (pc := 67) hX rfl rfl (Prod.mk.inj (Option.some.inj h)).1 (Prod.mk.inj (Option.some.inj h)).2 dX6_count_67
      · replace h := (if_neg hc2_2).symm.trans h
        by_cases hc2_3 : zI a1 = zI 3
        · replace h := (if_pos hc2_3).symm.trans h
          refine z_tswIn (pc := 5) (tgt := 62) (off := 57) hX 3 (by rw [hc2_3]; decide +kernel) dX6_count_5 rfl (by decide) ?_
          refine z_aload_n (pc := 62) hX 0 dX6_count_62 rfl rfl ?_
          refine z_iload_n (pc := 63) hX 1 dX6_count_63 rfl rfl ?_
          obtain ⟨r4, hr4, h⟩ := zcl_s h
          refine z_callVr (pc := 64) (c := 0) hX [.int (zI a1)] [] (wX6_ofAll (ca := ca) hG  hr4) rfl zmv_RX6_191 (Nat.le_of_ble_eq_true rfl) (zMod_e (ca := ca) (f := m1 0)) rfl rfl ⟨rfl, rfl⟩ ⟨by decide, by decide⟩ (Nat.le_of_ble_eq_true rfl) dX6_count_64 ?_
          exact z_iret (pc := 67) hX rfl rfl (Prod.mk.inj (Option.some.inj h)).1 (Prod.mk.inj (Option.some.inj h)).2 dX6_count_67
        · replace h := (if_neg hc2_3).symm.trans h
          by_cases hc2_4 : zI a1 = zI 4
          · replace h := (if_pos hc2_4).symm.trans h
            refine z_tswIn (pc := 5) (tgt := 62) (off := 57) hX 4 (by rw [hc2_4]; decide +kernel) dX6_count_5 rfl (by decide) ?_
            refine z_aload_n (pc := 62) hX 0 dX6_count_62 rfl rfl ?_
            refine z_iload_n (pc := 63) hX 1 dX6_count_63 rfl rfl ?_
            obtain ⟨r5, hr5, h⟩ := zcl_s h
            refine z_callVr (pc := 64) (c := 0) hX [.int (zI a1)] [] (wX6_ofAll (ca := ca) hG  hr5) rfl zmv_RX6_191 (Nat.le_of_ble_eq_true rfl) (zMod_e (ca := ca) (f := m1 0)) rfl rfl ⟨rfl, rfl⟩ ⟨by decide, by decide⟩ (Nat.le_of_ble_eq_true rfl) dX6_count_64 ?_
            exact z_iret (pc := 67) hX rfl rfl (Prod.mk.inj (Option.some.inj h)).1 (Prod.mk.inj (Option.some.inj h)).2 dX6_count_67
          · replace h := (if_neg hc2_4).symm.trans h
            by_cases hc2_5 : zI a1 = zI 5
            · replace h := (if_pos hc2_5).symm.trans h
              refine z_tswIn (pc := 5) (tgt := 68) (off := 63) hX 5 (by rw [hc2_5]; decide +kernel) dX6_count_5 rfl (by decide) ?_
              refine z_aload_n (pc := 68) hX 0 dX6_count_68 rfl rfl ?_
              refine z_get (pc := 69) (c := 0) (j := 12) (v := .int (zI (m1 0 12))) hX rfl zfl_RX6_65 (Nat.le_of_ble_eq_true rfl) (zMod_e (ca := ca) (f := m1 0)) rfl dX6_count_69 ?_
              refine z_aload_n (pc := 72) hX 0 dX6_count_72 rfl rfl ?_
              refine z_get (pc := 73) (c := 0) (j := 0) (v := .int (zI (m1 0 0))) hX rfl zfl_RX6_69 (Nat.le_of_ble_eq_true rfl) (zMod_e (ca := ca) (f := m1 0)) rfl dX6_count_73 ?_
              refine z_icmp_ne (pc := 76) (tgt := 83) hX dX6_count_76 (by decide) (fun hc6 => ?_) (fun hc6 => ?_)
              · replace h := (if_neg hc6).symm.trans h
                refine z_iconst (pc := 83) hX dX6_count_83 ?_
                exact z_iret (pc := 84) hX rfl rfl (Prod.mk.inj (Option.some.inj h)).1 (Prod.mk.inj (Option.some.inj h)).2 dX6_count_84
              · replace h := (if_pos hc6).symm.trans h
                refine z_iconst (pc := 79) hX dX6_count_79 ?_
                refine z_goto (pc := 80) (tgt := 84) hX dX6_count_80 (by decide) ?_
                exact z_iret (pc := 84) hX rfl rfl (Prod.mk.inj (Option.some.inj h)).1 (Prod.mk.inj (Option.some.inj h)).2 dX6_count_84
            · replace h := (if_neg hc2_5).symm.trans h
              by_cases hc2_6 : zI a1 = zI 6
              · replace h := (if_pos hc2_6).symm.trans h
                refine z_tswIn (pc := 5) (tgt := 85) (off := 80) hX 6 (by rw [hc2_6]; decide +kernel) dX6_count_5 rfl (by decide) ?_
                refine z_aload_n (pc := 85) hX 0 dX6_count_85 rfl rfl ?_
                refine z_get (pc := 86) (c := 0) (j := 2) (v := .int (zI (m1 0 2))) hX rfl zfl_RX6_94 (Nat.le_of_ble_eq_true rfl) (zMod_e (ca := ca) (f := m1 0)) rfl dX6_count_86 ?_
                exact z_iret (pc := 89) hX rfl rfl (Prod.mk.inj (Option.some.inj h)).1 (Prod.mk.inj (Option.some.inj h)).2 dX6_count_89
              · replace h := (if_neg hc2_6).symm.trans h
                by_cases hc2_7 : zI a1 = zI 7
                · replace h := (if_pos hc2_7).symm.trans h
                  refine z_tswIn (pc := 5) (tgt := 90) (off := 85) hX 7 (by rw [hc2_7]; decide +kernel) dX6_count_5 rfl (by decide) ?_
                  refine z_aload_n (pc := 90) hX 0 dX6_count_90 rfl rfl ?_
                  refine z_get (pc := 91) (c := 0) (j := 6) (v := .int (zI (m1 0 6))) hX rfl zfl_RX6_168 (Nat.le_of_ble_eq_true rfl) (zMod_e (ca := ca) (f := m1 0)) rfl dX6_count_91 ?_
                  exact z_iret (pc := 94) hX rfl rfl (Prod.mk.inj (Option.some.inj h)).1 (Prod.mk.inj (Option.some.inj h)).2 dX6_count_94
                · replace h := (if_neg hc2_7).symm.trans h
                  refine z_tswOut (pc := 5) (tgt := 95) hX (z_out8 hc2_0 hc2_1 hc2_2 hc2_3 hc2_4 hc2_5 hc2_6 hc2_7) dX6_count_5 (by decide) ?_
                  refine z_iconst (pc := 95) hX dX6_count_95 ?_
                  exact z_iret (pc := 96) hX rfl rfl (Prod.mk.inj (Option.some.inj h)).1 (Prod.mk.inj (Option.some.inj h)).2 dX6_count_96
def rmX6_cut : Room := { frames := 0, cells := 0, slots := 0, locals := 0 }
set_option maxRecDepth 20000 in
set_option maxHeartbeats 4000000 in
theorem wX6_cut {l : Launch} {D : va_G} {ca : Nat → ClassId} {ad : Nat → Nat} (hG : zGok (zGM D ca ad)) {a0 : Int} {a1 : Int} {r0 : Int} {m : zM} (h : FX6_cut a0 a1 = some r0) : zCt l (zGM D ca ad) yX6_cut cX6_cut 3 (some .long) rmX6_cut [.int (zI a0), .long (zJ a1)] m (some (.long (zJ r0))) m := by
  unfold FX6_cut at h
  refine z_of (plainFor_of_name (by decide +kernel)) hG (Nat.le_of_ble_eq_true rfl) (fun X hX => ?_)
  show zV X 3 m 0 [(0, .int (zI a0)), (1, .long (zJ a1))] []
  refine z_iload_n (pc := 0) hX 0 dX6_cut_0 rfl rfl ?_
  refine z_if_ne (pc := 1) (tgt := 12) hX dX6_cut_1 (by decide) (fun hc5 => ?_) (fun hc5 => ?_)
  · replace h := (if_neg hc5).symm.trans h
    refine z_iload_n (pc := 12) hX 0 dX6_cut_12 rfl rfl ?_
    refine z_iconst (pc := 13) hX dX6_cut_13 ?_
    refine z_icmp_ne (pc := 14) (tgt := 24) hX dX6_cut_14 (by decide) (fun hc4 => ?_) (fun hc4 => ?_)
    · replace h := (if_neg hc4).symm.trans h
      refine z_iload_n (pc := 24) hX 0 dX6_cut_24 rfl rfl ?_
      refine z_iconst (pc := 25) hX dX6_cut_25 ?_
      refine z_icmp_ne (pc := 26) (tgt := 35) hX dX6_cut_26 (by decide) (fun hc2 => ?_) (fun hc2 => ?_)
      · replace h := (if_neg hc2).symm.trans h
        refine z_lload_n (pc := 35) hX 1 dX6_cut_35 rfl rfl ?_
        exact z_lret (pc := 36) hX rfl rfl (Option.some.inj h) rfl dX6_cut_36
      · replace h := (if_pos hc2).symm.trans h
        refine z_lload_n (pc := 29) hX 1 dX6_cut_29 rfl rfl ?_
        refine z_l2i (pc := 30) hX dX6_cut_30 ?_
        obtain ⟨g1, h⟩ := zgd_s h
        refine z_i2l (pc := 31) hX g1 dX6_cut_31 ?_
        refine z_goto (pc := 32) (tgt := 36) hX dX6_cut_32 (by decide) ?_
        exact z_lret (pc := 36) hX rfl rfl (Option.some.inj h) rfl dX6_cut_36
    · replace h := (if_pos hc4).symm.trans h
      refine z_lload_n (pc := 17) hX 1 dX6_cut_17 rfl rfl ?_
      refine z_l2i (pc := 18) hX dX6_cut_18 ?_
      refine z_i2s (pc := 19) hX dX6_cut_19 ?_
      obtain ⟨g3, h⟩ := zgd_s h
      refine z_i2l (pc := 20) hX g3 dX6_cut_20 ?_
      refine z_goto (pc := 21) (tgt := 36) hX dX6_cut_21 (by decide) ?_
      exact z_lret (pc := 36) hX rfl rfl (Option.some.inj h) rfl dX6_cut_36
  · replace h := (if_pos hc5).symm.trans h
    refine z_lload_n (pc := 4) hX 1 dX6_cut_4 rfl rfl ?_
    refine z_ldc2 (pc := 5) (n := 65535) hX zk_RX6_177 (by decide +kernel) dX6_cut_5 ?_
    refine z_land (pc := 8) hX dX6_cut_8 ?_
    refine z_goto (pc := 9) (tgt := 36) hX dX6_cut_9 (by decide) ?_
    exact z_lret (pc := 36) hX rfl rfl (Option.some.inj h) rfl dX6_cut_36
def rmX6_layCuts : Room := { frames := 1, cells := 0, slots := 0, locals := 24 }
set_option maxRecDepth 20000 in
set_option maxHeartbeats 4000000 in
theorem wX6_layCuts_L26 {X : zXT} {l : Launch} {D : va_G} {ca : Nat → ClassId} {ad : Nat → Nat} (hG : zGok (zGM D ca ad)) {a1 : Int} {a2 : Int}  {m0 : zM} {k3 : Int} (hX : zC X l rmX6_layCuts (zGM D ca ad) none m0 cX6_layCuts 5 RX6 none) {k : Int → zM → Option (zM)} (hk : ∀ (v4 : Int) (m_ : zM), k v4 m_ = some m0 → zV X 5 m_ 90 [(0, .ref (ad 0)), (1, .int (zI a1)), (2, .int (zI a2)), (3, .int (zI k3)), (4, .int (zI v4))] []) : ∀ (n : Nat) (v4 : Int) (m_ : zM), FX6_layCuts_L26 a1 a2 k3 k n v4 m_ = some m0 → zV X 5 m_ 26 [(0, .ref (ad 0)), (1, .int (zI a1)), (2, .int (zI a2)), (3, .int (zI k3)), (4, .int (zI v4))] [] := by
  intro n
  induction n with
  | zero => intro v4 m_ h; cases h
  | succ n ih =>
    intro v4 m_ h
    replace h : FX6_layCuts_L26_B a1 a2 k3 k (FX6_layCuts_L26 a1 a2 k3 k n) v4 m_ = some m0 := h
    unfold FX6_layCuts_L26_B at h
    refine z_iload_n (pc := 26) hX 3 dX6_layCuts_26 rfl rfl ?_
    refine z_iload (pc := 27) hX 4 dX6_layCuts_27 rfl ?_
    refine z_iadd (pc := 29) hX dX6_layCuts_29 ?_
    refine z_iload_n (pc := 30) hX 1 dX6_layCuts_30 rfl rfl ?_
    refine z_icmp_gt (pc := 31) (tgt := 90) hX dX6_layCuts_31 (by decide) (fun hc10 => ?_) (fun hc10 => ?_)
    · replace h := (if_pos hc10).symm.trans h
      exact hk _ _ h
    · replace h := (if_neg hc10).symm.trans h
      refine z_aload_n (pc := 34) hX 0 dX6_layCuts_34 rfl rfl ?_
      refine z_iload_n (pc := 35) hX 3 dX6_layCuts_35 rfl rfl ?_
      refine z_iload (pc := 36) hX 4 dX6_layCuts_36 rfl ?_
      obtain ⟨r3, hr3, h⟩ := zcl_s h
      refine z_callVr (pc := 38) (c := 0) hX [.int (zI k3), .int (zI v4)] [] (wX6_isMirror (ca := ca) hG  hr3) rfl zmv_RX6_53 (Nat.le_of_ble_eq_true rfl) (zMod_e (ca := ca) (f := m_ 0)) rfl rfl ⟨rfl, rfl⟩ ⟨by decide, by decide⟩ (Nat.le_of_ble_eq_true rfl) dX6_layCuts_38 ?_
      refine z_if_eq (pc := 41) (tgt := 81) hX dX6_layCuts_41 (by decide) (fun hc9 => ?_) (fun hc9 => ?_)
      · replace h := (if_pos hc9).symm.trans h
        refine z_iload (pc := 81) hX 4 dX6_layCuts_81 rfl ?_
        refine z_iload_n (pc := 83) hX 2 dX6_layCuts_83 rfl rfl ?_
        refine z_iadd (pc := 84) hX dX6_layCuts_84 ?_
        refine z_istore (pc := 85) (lv' := [(4, .int (zI (v4 + a2))), (0, .ref (ad 0)), (1, .int (zI a1)), (2, .int (zI a2)), (3, .int (zI k3))]) hX dX6_layCuts_85 (by decide) rfl ?_
        refine z_goto (pc := 87) (tgt := 26) hX dX6_layCuts_87 (by decide) ?_
        refine z_sub [1, 2, 3, 4, 0] rfl ?_
        exact ih _ _ h
      · replace h := (if_neg hc9).symm.trans h
        refine z_aload_n (pc := 44) hX 0 dX6_layCuts_44 rfl rfl ?_
        refine z_get (pc := 45) (c := 0) (j := 15) (v := .ref (ad 12)) hX rfl zfl_RX6_44 (Nat.le_of_ble_eq_true rfl) (zMod_e (ca := ca) (f := m_ 0)) rfl dX6_layCuts_45 ?_
        refine z_iload_n (pc := 48) hX 3 dX6_layCuts_48 rfl rfl ?_
        refine z_iload (pc := 49) hX 4 dX6_layCuts_49 rfl ?_
        refine z_iadd (pc := 51) hX dX6_layCuts_51 ?_
        obtain ⟨x4, hx4, hi4, h⟩ := zrd_s h
        refine z_iald (pc := 52) (c := 12) hX zMi12 hi4 hx4 dX6_layCuts_52 ?_
        refine z_iconst (pc := 53) hX dX6_layCuts_53 ?_
        refine z_iadd (pc := 54) hX dX6_layCuts_54 ?_
        refine z_aload_n (pc := 55) hX 0 dX6_layCuts_55 rfl rfl ?_
        refine z_get (pc := 56) (c := 0) (j := 15) (v := .ref (ad 12)) hX rfl zfl_RX6_44 (Nat.le_of_ble_eq_true rfl) (zMod_e (ca := ca) (f := m_ 0)) rfl dX6_layCuts_56 ?_
        refine z_iload_n (pc := 59) hX 3 dX6_layCuts_59 rfl rfl ?_
        obtain ⟨x5, hx5, hi5, h⟩ := zrd_s h
        refine z_iald (pc := 60) (c := 12) hX zMi12 hi5 hx5 dX6_layCuts_60 ?_
        refine z_icmp_ge (pc := 61) (tgt := 81) hX dX6_layCuts_61 (by decide) (fun hc8 => ?_) (fun hc8 => ?_)
        · replace h := (if_neg hc8).symm.trans h
          refine z_iload (pc := 81) hX 4 dX6_layCuts_81 rfl ?_
          refine z_iload_n (pc := 83) hX 2 dX6_layCuts_83 rfl rfl ?_
          refine z_iadd (pc := 84) hX dX6_layCuts_84 ?_
          refine z_istore (pc := 85) (lv' := [(4, .int (zI (v4 + a2))), (0, .ref (ad 0)), (1, .int (zI a1)), (2, .int (zI a2)), (3, .int (zI k3))]) hX dX6_layCuts_85 (by decide) rfl ?_
          refine z_goto (pc := 87) (tgt := 26) hX dX6_layCuts_87 (by decide) ?_
          refine z_sub [1, 2, 3, 4, 0] rfl ?_
          exact ih _ _ h
        · replace h := (if_pos hc8).symm.trans h
          refine z_aload_n (pc := 64) hX 0 dX6_layCuts_64 rfl rfl ?_
          refine z_get (pc := 65) (c := 0) (j := 15) (v := .ref (ad 12)) hX rfl zfl_RX6_44 (Nat.le_of_ble_eq_true rfl) (zMod_e (ca := ca) (f := m_ 0)) rfl dX6_layCuts_65 ?_
          refine z_iload_n (pc := 68) hX 3 dX6_layCuts_68 rfl rfl ?_
          refine z_aload_n (pc := 69) hX 0 dX6_layCuts_69 rfl rfl ?_
          refine z_get (pc := 70) (c := 0) (j := 15) (v := .ref (ad 12)) hX rfl zfl_RX6_44 (Nat.le_of_ble_eq_true rfl) (zMod_e (ca := ca) (f := m_ 0)) rfl dX6_layCuts_70 ?_
          refine z_iload_n (pc := 73) hX 3 dX6_layCuts_73 rfl rfl ?_
          refine z_iload (pc := 74) hX 4 dX6_layCuts_74 rfl ?_
          refine z_iadd (pc := 76) hX dX6_layCuts_76 ?_
          obtain ⟨x6, hx6, hi6, h⟩ := zrd_s h
          refine z_iald (pc := 77) (c := 12) hX zMi12 hi6 hx6 dX6_layCuts_77 ?_
          refine z_iconst (pc := 78) hX dX6_layCuts_78 ?_
          refine z_iadd (pc := 79) hX dX6_layCuts_79 ?_
          obtain ⟨m7, hm7, hi7, h⟩ := zwr_s h
          refine z_iast (pc := 80) (c := 12) hX zMi12 hi7 hm7 dX6_layCuts_80 ?_
          refine z_iload (pc := 81) hX 4 dX6_layCuts_81 rfl ?_
          refine z_iload_n (pc := 83) hX 2 dX6_layCuts_83 rfl rfl ?_
          refine z_iadd (pc := 84) hX dX6_layCuts_84 ?_
          refine z_istore (pc := 85) (lv' := [(4, .int (zI (v4 + a2))), (0, .ref (ad 0)), (1, .int (zI a1)), (2, .int (zI a2)), (3, .int (zI k3))]) hX dX6_layCuts_85 (by decide) rfl ?_
          refine z_goto (pc := 87) (tgt := 26) hX dX6_layCuts_87 (by decide) ?_
          refine z_sub [1, 2, 3, 4, 0] rfl ?_
          exact ih _ _ h
set_option maxRecDepth 20000 in
set_option maxHeartbeats 4000000 in
theorem wX6_layCuts_L11 {X : zXT} {l : Launch} {D : va_G} {ca : Nat → ClassId} {ad : Nat → Nat} (hG : zGok (zGM D ca ad)) {a1 : Int} {a2 : Int}  {m0 : zM}  (hX : zC X l rmX6_layCuts (zGM D ca ad) none m0 cX6_layCuts 5 RX6 none) {k : Int → zM → Option (zM)} (hk : ∀ (v3 : Int) (m_ : zM), k v3 m_ = some m0 → zV X 5 m_ 96 [(0, .ref (ad 0)), (1, .int (zI a1)), (2, .int (zI a2)), (3, .int (zI v3))] []) : ∀ (n : Nat) (v3 : Int) (m_ : zM), FX6_layCuts_L11 a1 a2 k n v3 m_ = some m0 → zV X 5 m_ 11 [(0, .ref (ad 0)), (1, .int (zI a1)), (2, .int (zI a2)), (3, .int (zI v3))] [] := by
  intro n
  induction n with
  | zero => intro v3 m_ h; cases h
  | succ n ih =>
    intro v3 m_ h
    replace h : FX6_layCuts_L11_B a1 a2 k (FX6_layCuts_L11 a1 a2 k n) v3 m_ = some m0 := h
    unfold FX6_layCuts_L11_B at h
    refine z_iload_n (pc := 11) hX 3 dX6_layCuts_11 rfl rfl ?_
    refine z_if_lt (pc := 12) (tgt := 96) hX dX6_layCuts_12 (by decide) (fun hc11 => ?_) (fun hc11 => ?_)
    · replace h := (if_pos hc11).symm.trans h
      exact hk _ _ h
    · replace h := (if_neg hc11).symm.trans h
      refine z_aload_n (pc := 15) hX 0 dX6_layCuts_15 rfl rfl ?_
      refine z_get (pc := 16) (c := 0) (j := 15) (v := .ref (ad 12)) hX rfl zfl_RX6_44 (Nat.le_of_ble_eq_true rfl) (zMod_e (ca := ca) (f := m_ 0)) rfl dX6_layCuts_16 ?_
      refine z_iload_n (pc := 19) hX 3 dX6_layCuts_19 rfl rfl ?_
      refine z_bipush (pc := 20) hX dX6_layCuts_20 (by decide +kernel) ?_
      obtain ⟨m2, hm2, hi2, h⟩ := zwr_s h
      refine z_iast (pc := 22) (c := 12) hX zMi12 hi2 hm2 dX6_layCuts_22 ?_
      refine z_iload_n (pc := 23) hX 2 dX6_layCuts_23 rfl rfl ?_
      refine z_istore (pc := 24) (lv' := [(4, .int (zI a2)), (0, .ref (ad 0)), (1, .int (zI a1)), (2, .int (zI a2)), (3, .int (zI v3))]) hX dX6_layCuts_24 (by decide) rfl ?_
      refine z_sub [1, 2, 3, 4, 0] rfl ?_
      refine wX6_layCuts_L26 hG  hX (fun y26_4 m26_ h => ?_) _ _ _ h
      refine z_iinc (pc := 90) (lv' := [(3, .int (zI (v3 + -1))), (0, .ref (ad 0)), (1, .int (zI a1)), (2, .int (zI a2)), (4, .int (zI y26_4))]) hX 3 dX6_layCuts_90 rfl (by decide) rfl ?_
      refine z_goto (pc := 93) (tgt := 11) hX dX6_layCuts_93 (by decide) ?_
      refine z_sub [1, 2, 3, 0] rfl ?_
      exact ih _ _ h
set_option maxRecDepth 20000 in
set_option maxHeartbeats 4000000 in
theorem wX6_layCuts {l : Launch} {D : va_G} {ca : Nat → ClassId} {ad : Nat → Nat} (hG : zGok (zGM D ca ad)) {a1 : Int} {a2 : Int} {m0 : zM} {m : zM} (h : FX6_layCuts a1 a2 m = some m0) : zCt l (zGM D ca ad) yX6_layCuts cX6_layCuts 5 none rmX6_layCuts [.ref (ad 0), .int (zI a1), .int (zI a2)] m none m0 := by
  unfold FX6_layCuts at h
  refine z_of (plainFor_of_name (by decide +kernel)) hG (Nat.le_of_ble_eq_true rfl) (fun X hX => ?_)
  show zV X 5 m 0 [(0, .ref (ad 0)), (1, .int (zI a1)), (2, .int (zI a2))] []
  refine z_aload_n (pc := 0) hX 0 dX6_layCuts_0 rfl rfl ?_
  refine z_get (pc := 1) (c := 0) (j := 15) (v := .ref (ad 12)) hX rfl zfl_RX6_44 (Nat.le_of_ble_eq_true rfl) (zMod_e (ca := ca) (f := m 0)) rfl dX6_layCuts_1 ?_
  refine z_iload_n (pc := 4) hX 1 dX6_layCuts_4 rfl rfl ?_
  refine z_iconst (pc := 5) hX dX6_layCuts_5 ?_
  obtain ⟨m1, hm1, hi1, h⟩ := zwr_s h
  refine z_iast (pc := 6) (c := 12) hX zMi12 hi1 hm1 dX6_layCuts_6 ?_
  refine z_iload_n (pc := 7) hX 1 dX6_layCuts_7 rfl rfl ?_
  refine z_iconst (pc := 8) hX dX6_layCuts_8 ?_
  refine z_isub (pc := 9) hX dX6_layCuts_9 ?_
  refine z_istore_n (pc := 10) (lv' := [(3, .int (zI (a1 - 1))), (0, .ref (ad 0)), (1, .int (zI a1)), (2, .int (zI a2))]) hX dX6_layCuts_10 rfl (by decide) rfl ?_
  refine z_sub [1, 2, 3, 0] rfl ?_
  refine wX6_layCuts_L11 hG  hX (fun y11_3 m11_ h => ?_) _ _ _ h
  exact z_vret (pc := 96) hX rfl rfl (Option.some.inj h) dX6_layCuts_96
def rmX6_cuts : Room := { frames := 2, cells := 0, slots := 0, locals := 48 }
set_option maxRecDepth 20000 in
set_option maxHeartbeats 4000000 in
theorem wX6_cuts_L81 {X : zXT} {l : Launch} {D : va_G} {ca : Nat → ClassId} {ad : Nat → Nat} (hG : zGok (zGM D ca ad)) {a1 : Int} {a2 : Int}  {r0 : Int} {m0 : zM} {mc : zM} {k3 : Int} {k5 : Int} (hX : zC X l rmX6_cuts (zGM D ca ad) (some (.int (zI r0))) m0 cX6_cuts 6 RX6 (some .int)) {k : Int → Option (Int × zM)} (hk : ∀ (v4 : Int), k v4 = some (r0, m0) → zV X 6 mc 117 [(0, .ref (ad 0)), (2, .int (zI a2)), (3, .int (zI k3)), (4, .int (zI v4)), (5, .int (zI k5))] []) : ∀ (n : Nat) (v4 : Int), FX6_cuts_L81 a1 a2 k3 k5 mc k n v4 = some (r0, m0) → zV X 6 mc 81 [(0, .ref (ad 0)), (2, .int (zI a2)), (3, .int (zI k3)), (4, .int (zI v4)), (5, .int (zI k5))] [] := by
  intro n
  induction n with
  | zero => intro v4 h; cases h
  | succ n ih =>
    intro v4 h
    replace h : FX6_cuts_L81_B a1 a2 k3 k5 mc k (FX6_cuts_L81 a1 a2 k3 k5 mc k n) v4 = some (r0, m0) := h
    unfold FX6_cuts_L81_B at h
    refine z_aload_n (pc := 81) hX 0 dX6_cuts_81 rfl rfl ?_
    refine z_iload_n (pc := 82) hX 2 dX6_cuts_82 rfl rfl ?_
    refine z_iload (pc := 83) hX 3 dX6_cuts_83 rfl ?_
    obtain ⟨r8, hr8, h⟩ := zcl_s h
    refine z_callVr (pc := 85) (c := 0) hX [.int (zI k3), .int (zI v4)] [] (wX6_isMirror (ca := ca) hG  hr8) rfl zmv_RX6_53 (Nat.le_of_ble_eq_true rfl) (zMod_e (ca := ca) (f := mc 0)) rfl rfl ⟨rfl, rfl⟩ ⟨by decide, by decide⟩ (Nat.le_of_ble_eq_true rfl) dX6_cuts_85 ?_
    refine z_if_eq (pc := 88) (tgt := 111) hX dX6_cuts_88 (by decide) (fun hc12 => ?_) (fun hc12 => ?_)
    · replace h := (if_pos hc12).symm.trans h
      refine z_iinc (pc := 111) (lv' := [(4, .int (zI (v4 + 1))), (0, .ref (ad 0)), (2, .int (zI a2)), (3, .int (zI k3)), (5, .int (zI k5))]) hX 3 dX6_cuts_111 rfl (by decide) rfl ?_
      refine z_goto (pc := 114) (tgt := 81) hX dX6_cuts_114 (by decide) ?_
      refine z_sub [1, 2, 3, 0, 4] rfl ?_
      exact ih _ h
    · replace h := (if_neg hc12).symm.trans h
      refine z_aload_n (pc := 91) hX 0 dX6_cuts_91 rfl rfl ?_
      refine z_get (pc := 92) (c := 0) (j := 15) (v := .ref (ad 12)) hX rfl zfl_RX6_44 (Nat.le_of_ble_eq_true rfl) (zMod_e (ca := ca) (f := mc 0)) rfl dX6_cuts_92 ?_
      refine z_iload_n (pc := 95) hX 2 dX6_cuts_95 rfl rfl ?_
      refine z_iload (pc := 96) hX 3 dX6_cuts_96 rfl ?_
      refine z_iadd (pc := 98) hX dX6_cuts_98 ?_
      obtain ⟨x9, hx9, hi9, h⟩ := zrd_s h
      refine z_iald (pc := 99) (c := 12) hX zMi12 hi9 hx9 dX6_cuts_99 ?_
      refine z_aload_n (pc := 100) hX 0 dX6_cuts_100 rfl rfl ?_
      refine z_get (pc := 101) (c := 0) (j := 15) (v := .ref (ad 12)) hX rfl zfl_RX6_44 (Nat.le_of_ble_eq_true rfl) (zMod_e (ca := ca) (f := mc 0)) rfl dX6_cuts_101 ?_
      refine z_iload_n (pc := 104) hX 2 dX6_cuts_104 rfl rfl ?_
      obtain ⟨x10, hx10, hi10, h⟩ := zrd_s h
      refine z_iald (pc := 105) (c := 12) hX zMi12 hi10 hx10 dX6_cuts_105 ?_
      refine z_iconst (pc := 106) hX dX6_cuts_106 ?_
      refine z_isub (pc := 107) hX dX6_cuts_107 ?_
      refine z_icmp_eq (pc := 108) (tgt := 117) hX dX6_cuts_108 (by decide) (fun hc11 => ?_) (fun hc11 => ?_)
      · replace h := (if_pos hc11).symm.trans h
        exact hk _ h
      · replace h := (if_neg hc11).symm.trans h
        refine z_iinc (pc := 111) (lv' := [(4, .int (zI (v4 + 1))), (0, .ref (ad 0)), (2, .int (zI a2)), (3, .int (zI k3)), (5, .int (zI k5))]) hX 3 dX6_cuts_111 rfl (by decide) rfl ?_
        refine z_goto (pc := 114) (tgt := 81) hX dX6_cuts_114 (by decide) ?_
        refine z_sub [1, 2, 3, 0, 4] rfl ?_
        exact ih _ h
set_option maxRecDepth 20000 in
set_option maxHeartbeats 4000000 in
theorem wX6_cuts_L67 {X : zXT} {l : Launch} {D : va_G} {ca : Nat → ClassId} {ad : Nat → Nat} (hG : zGok (zGM D ca ad)) {a1 : Int} {a2 : Int}  {r0 : Int} {m0 : zM} {mc : zM}  (hX : zC X l rmX6_cuts (zGM D ca ad) (some (.int (zI r0))) m0 cX6_cuts 6 RX6 (some .int)) {k : Int → Int → Int → Option (Int × zM)} (hk : ∀ (v3 : Int) (v4 : Int) (v5 : Int), k v3 v4 v5 = some (r0, m0) → zV X 6 mc 123 [(0, .ref (ad 0)), (2, .int (zI a2)), (3, .int (zI v3)), (4, .int (zI v4)), (5, .int (zI v5))] []) : ∀ (n : Nat) (v3 : Int) (v4 : Int) (v5 : Int), FX6_cuts_L67 a1 a2 mc k n v3 v4 v5 = some (r0, m0) → zV X 6 mc 67 [(0, .ref (ad 0)), (2, .int (zI a2)), (3, .int (zI v3)), (4, .int (zI v4)), (5, .int (zI v5))] [] := by
  intro n
  induction n with
  | zero => intro v3 v4 v5 h; cases h
  | succ n ih =>
    intro v3 v4 v5 h
    replace h : FX6_cuts_L67_B a1 a2 mc k (FX6_cuts_L67 a1 a2 mc k n) v3 v4 v5 = some (r0, m0) := h
    unfold FX6_cuts_L67_B at h
    refine z_iload (pc := 67) hX 4 dX6_cuts_67 rfl ?_
    refine z_iload_n (pc := 69) hX 1 dX6_cuts_69 rfl rfl ?_
    refine z_icmp_gt (pc := 70) (tgt := 123) hX dX6_cuts_70 (by decide) (fun hc13 => ?_) (fun hc13 => ?_)
    · replace h := (if_pos hc13).symm.trans h
      exact hk _ _ _ h
    · replace h := (if_neg hc13).symm.trans h
      refine z_iload_n (pc := 73) hX 2 dX6_cuts_73 rfl rfl ?_
      refine z_iload (pc := 74) hX 3 dX6_cuts_74 rfl ?_
      refine z_iadd (pc := 76) hX dX6_cuts_76 ?_
      refine z_istore_n (pc := 77) (lv' := [(3, .int (zI (v3 + v4))), (0, .ref (ad 0)), (2, .int (zI a2)), (4, .int (zI v4)), (5, .int (zI v5))]) hX dX6_cuts_77 rfl (by decide) rfl ?_
      refine z_iconst (pc := 78) hX dX6_cuts_78 ?_
      refine z_istore (pc := 79) (lv' := [(4, .int (zI 1)), (3, .int (zI (v3 + v4))), (0, .ref (ad 0)), (2, .int (zI a2)), (5, .int (zI v5))]) hX dX6_cuts_79 (by decide) rfl ?_
      refine z_sub [2, 3, 1, 0, 4] rfl ?_
      refine wX6_cuts_L81 hG  hX (fun y81_4 h => ?_) _ _ h
      refine z_iinc (pc := 117) (lv' := [(5, .int (zI (v5 + 1))), (0, .ref (ad 0)), (2, .int (zI a2)), (3, .int (zI (v3 + v4))), (4, .int (zI y81_4))]) hX 4 dX6_cuts_117 rfl (by decide) rfl ?_
      refine z_goto (pc := 120) (tgt := 67) hX dX6_cuts_120 (by decide) ?_
      refine z_sub [1, 2, 3, 4, 0] rfl ?_
      exact ih _ _ _ h
set_option maxRecDepth 20000 in
set_option maxHeartbeats 4000000 in
theorem wX6_cuts {l : Launch} {D : va_G} {ca : Nat → ClassId} {ad : Nat → Nat} (hG : zGok (zGM D ca ad)) {a1 : Int} {a2 : Int} {r0 : Int} {m0 : zM} {m : zM} (h : FX6_cuts a1 a2 m = some (r0, m0)) : zCt l (zGM D ca ad) yX6_cuts cX6_cuts 6 (some .int) rmX6_cuts [.ref (ad 0), .int (zI a1), .int (zI a2)] m (some (.int (zI r0))) m0 := by
  unfold FX6_cuts at h
  refine z_of (plainFor_of_name (by decide +kernel)) hG (Nat.le_of_ble_eq_true rfl) (fun X hX => ?_)
  show zV X 6 m 0 [(0, .ref (ad 0)), (1, .int (zI a1)), (2, .int (zI a2))] []
  refine z_iload_n (pc := 0) hX 1 dX6_cuts_0 rfl rfl ?_
  obtain ⟨g1, h⟩ := zgd_s h
  refine z_i2l (pc := 1) hX g1 dX6_cuts_1 ?_
  refine z_lconst (pc := 2) (a := 0) hX dX6_cuts_2 (by decide +kernel) ?_
  refine z_aload_n (pc := 3) hX 0 dX6_cuts_3 rfl rfl ?_
  refine z_get (pc := 4) (c := 0) (j := 0) (v := .int (zI (m 0 0))) hX rfl zfl_RX6_69 (Nat.le_of_ble_eq_true rfl) (zMod_e (ca := ca) (f := m 0)) rfl dX6_cuts_4 ?_
  obtain ⟨g2, h⟩ := zgd_s h
  refine z_i2l (pc := 7) hX g2 dX6_cuts_7 ?_
  obtain ⟨r3, hr3, h⟩ := zcl_s h
  refine z_callSr (pc := 8) hX [.long (zJ a1), .long (zJ 0), .long (zJ (m 0 0))] [] (wX6_within (ca := ca) hG  hr3) zms_RX6_90 rfl rfl ⟨rfl, rfl⟩ ⟨by decide, by decide⟩ (Nat.le_of_ble_eq_true rfl) dX6_cuts_8 ?_
  refine z_if_eq (pc := 11) (tgt := 19) hX dX6_cuts_11 (by decide) (fun hc17 => ?_) (fun hc17 => ?_)
  · replace h := (if_pos hc17).symm.trans h
    refine z_iconst (pc := 19) hX dX6_cuts_19 ?_
    exact z_iret (pc := 20) hX rfl rfl (Prod.mk.inj (Option.some.inj h)).1 (Prod.mk.inj (Option.some.inj h)).2 dX6_cuts_20
  · replace h := (if_neg hc17).symm.trans h
    refine z_iload_n (pc := 14) hX 2 dX6_cuts_14 rfl rfl ?_
    refine z_iconst (pc := 15) hX dX6_cuts_15 ?_
    refine z_icmp_ge (pc := 16) (tgt := 21) hX dX6_cuts_16 (by decide) (fun hc16 => ?_) (fun hc16 => ?_)
    · replace h := (if_neg hc16).symm.trans h
      refine z_aload_n (pc := 21) hX 0 dX6_cuts_21 rfl rfl ?_
      refine z_iload_n (pc := 22) hX 1 dX6_cuts_22 rfl rfl ?_
      refine z_iconst (pc := 23) hX dX6_cuts_23 ?_
      obtain ⟨m4, hr4, h⟩ := zcl_s h
      refine z_callVv (pc := 24) (v := .null) (c := 0) hX [.int (zI a1), .int (zI 1)] [] (wX6_layCuts (ca := ca) hG  hr4) rfl zmv_RX6_126 (Nat.le_of_ble_eq_true rfl) (zMod_e (ca := ca) (f := m 0)) rfl rfl ⟨rfl, rfl⟩ ⟨by decide, by decide⟩ (Nat.le_of_ble_eq_true rfl) dX6_cuts_24 ?_
      refine z_iload_n (pc := 27) hX 2 dX6_cuts_27 rfl rfl ?_
      refine z_iconst (pc := 28) hX dX6_cuts_28 ?_
      obtain ⟨j42, hj42, h⟩ := zjn_s h (fun (j : Option (Int × zM)) => j = some (r0, m0) → zV X 6 m4 42 [(0, .ref (ad 0)), (2, .int (zI a2))] []) (fun h => by
          refine z_iload_n (pc := 42) hX 1 dX6_cuts_42 rfl rfl ?_
          refine z_iconst (pc := 43) hX dX6_cuts_43 ?_
          refine z_icmp_ne (pc := 44) (tgt := 56) hX dX6_cuts_44 (by decide) (fun hc6 => ?_) (fun hc6 => ?_)
          · replace h := (if_neg hc6).symm.trans h
            refine z_bipush (pc := 56) hX dX6_cuts_56 (by decide +kernel) ?_
            exact z_iret (pc := 58) hX rfl rfl (Prod.mk.inj (Option.some.inj h)).1 (Prod.mk.inj (Option.some.inj h)).2 dX6_cuts_58
          · replace h := (if_pos hc6).symm.trans h
            refine z_aload_n (pc := 47) hX 0 dX6_cuts_47 rfl rfl ?_
            refine z_get (pc := 48) (c := 0) (j := 15) (v := .ref (ad 12)) hX rfl zfl_RX6_44 (Nat.le_of_ble_eq_true rfl) (zMod_e (ca := ca) (f := m4 0)) rfl dX6_cuts_48 ?_
            refine z_iconst (pc := 51) hX dX6_cuts_51 ?_
            obtain ⟨x5, hx5, hi5, h⟩ := zrd_s h
            refine z_iald (pc := 52) (c := 12) hX zMi12 hi5 hx5 dX6_cuts_52 ?_
            refine z_goto (pc := 53) (tgt := 58) hX dX6_cuts_53 (by decide) ?_
            exact z_iret (pc := 58) hX rfl rfl (Prod.mk.inj (Option.some.inj h)).1 (Prod.mk.inj (Option.some.inj h)).2 dX6_cuts_58
          )
      refine z_icmp_eq (pc := 29) (tgt := 42) hX dX6_cuts_29 (by decide) (fun hc15 => ?_) (fun hc15 => ?_)
      · replace h := (if_pos hc15).symm.trans h
        refine z_sub [0, 2] rfl ?_
        exact hj42 h
      · replace h := (if_neg hc15).symm.trans h
        refine z_iload_n (pc := 32) hX 2 dX6_cuts_32 rfl rfl ?_
        refine z_aload_n (pc := 33) hX 0 dX6_cuts_33 rfl rfl ?_
        refine z_get (pc := 34) (c := 0) (j := 15) (v := .ref (ad 12)) hX rfl zfl_RX6_44 (Nat.le_of_ble_eq_true rfl) (zMod_e (ca := ca) (f := m4 0)) rfl dX6_cuts_34 ?_
        refine z_iconst (pc := 37) hX dX6_cuts_37 ?_
        obtain ⟨x7, hx7, hi7, h⟩ := zrd_s h
        refine z_iald (pc := 38) (c := 12) hX zMi12 hi7 hx7 dX6_cuts_38 ?_
        refine z_icmp_lt (pc := 39) (tgt := 59) hX dX6_cuts_39 (by decide) (fun hc14 => ?_) (fun hc14 => ?_)
        · replace h := (if_pos hc14).symm.trans h
          refine z_iconst (pc := 59) hX dX6_cuts_59 ?_
          refine z_istore_n (pc := 60) (lv' := [(3, .int (zI 0)), (0, .ref (ad 0)), (1, .int (zI a1)), (2, .int (zI a2))]) hX dX6_cuts_60 rfl (by decide) rfl ?_
          refine z_iconst (pc := 61) hX dX6_cuts_61 ?_
          refine z_istore (pc := 62) (lv' := [(4, .int (zI 0)), (3, .int (zI 0)), (0, .ref (ad 0)), (1, .int (zI a1)), (2, .int (zI a2))]) hX dX6_cuts_62 (by decide) rfl ?_
          refine z_iconst (pc := 64) hX dX6_cuts_64 ?_
          refine z_istore (pc := 65) (lv' := [(5, .int (zI 0)), (4, .int (zI 0)), (3, .int (zI 0)), (0, .ref (ad 0)), (1, .int (zI a1)), (2, .int (zI a2))]) hX dX6_cuts_65 (by decide) rfl ?_
          refine z_sub [3, 5, 2, 1, 0] rfl ?_
          refine wX6_cuts_L67 hG  hX (fun y67_3 y67_4 y67_5 h => ?_) _ _ _ _ h
          refine z_iload (pc := 123) hX 3 dX6_cuts_123 rfl ?_
          exact z_iret (pc := 125) hX rfl rfl (Prod.mk.inj (Option.some.inj h)).1 (Prod.mk.inj (Option.some.inj h)).2 dX6_cuts_125
        · replace h := (if_neg hc14).symm.trans h
          refine z_sub [0, 2] rfl ?_
          exact hj42 h
    · replace h := (if_pos hc16).symm.trans h
      refine z_iconst (pc := 19) hX dX6_cuts_19 ?_
      exact z_iret (pc := 20) hX rfl rfl (Prod.mk.inj (Option.some.inj h)).1 (Prod.mk.inj (Option.some.inj h)).2 dX6_cuts_20
def rmX6_drop : Room := { frames := 2, cells := 0, slots := 0, locals := 45 }
set_option maxRecDepth 20000 in
set_option maxHeartbeats 4000000 in
theorem wX6_drop {l : Launch} {D : va_G} {ca : Nat → ClassId} {ad : Nat → Nat} (hG : zGok (zGM D ca ad)) {a1 : Int} {r0 : Int} {m0 : zM} {m : zM} (h : FX6_drop a1 m = some (r0, m0)) : zCt l (zGM D ca ad) yX6_drop cX6_drop 2 (some .int) rmX6_drop [.ref (ad 0), .int (zI a1)] m (some (.int (zI r0))) m0 := by
  unfold FX6_drop at h
  refine z_of (plainFor_of_name (by decide +kernel)) hG (Nat.le_of_ble_eq_true rfl) (fun X hX => ?_)
  show zV X 2 m 0 [(0, .ref (ad 0)), (1, .int (zI a1))] []
  refine z_iload_n (pc := 0) hX 1 dX6_drop_0 rfl rfl ?_
  obtain ⟨r1, hr1, h⟩ := zcl_s h
  refine z_callSr (pc := 1) hX [.int (zI a1)] [] (wX6_isSheet (ca := ca) hG  hr1) zms_RX6_174 rfl rfl ⟨rfl, rfl⟩ ⟨by decide, by decide⟩ (Nat.le_of_ble_eq_true rfl) dX6_drop_1 ?_
  refine z_if_ne (pc := 4) (tgt := 9) hX dX6_drop_4 (by decide) (fun hc6 => ?_) (fun hc6 => ?_)
  · replace h := (if_neg hc6).symm.trans h
    refine z_aload_n (pc := 9) hX 0 dX6_drop_9 rfl rfl ?_
    refine z_get (pc := 10) (c := 0) (j := 8) (v := .ref (ad 6)) hX rfl zfl_RX6_25 (Nat.le_of_ble_eq_true rfl) (zMod_e (ca := ca) (f := m 0)) rfl dX6_drop_10 ?_
    refine z_iload_n (pc := 13) hX 1 dX6_drop_13 rfl rfl ?_
    obtain ⟨x2, hx2, hi2, h⟩ := zrd_s h
    refine z_iald (pc := 14) (c := 6) hX zMi6 hi2 hx2 dX6_drop_14 ?_
    refine z_if_ge (pc := 15) (tgt := 21) hX dX6_drop_15 (by decide) (fun hc5 => ?_) (fun hc5 => ?_)
    · replace h := (if_neg hc5).symm.trans h
      refine z_aload_n (pc := 21) hX 0 dX6_drop_21 rfl rfl ?_
      refine z_get (pc := 22) (c := 0) (j := 8) (v := .ref (ad 6)) hX rfl zfl_RX6_25 (Nat.le_of_ble_eq_true rfl) (zMod_e (ca := ca) (f := m 0)) rfl dX6_drop_22 ?_
      refine z_iload_n (pc := 25) hX 1 dX6_drop_25 rfl rfl ?_
      refine z_iconst (pc := 26) hX dX6_drop_26 ?_
      obtain ⟨m3, hm3, hi3, h⟩ := zwr_s h
      refine z_iast (pc := 27) (c := 6) hX zMi6 hi3 hm3 dX6_drop_27 ?_
      refine z_aload_n (pc := 28) hX 0 dX6_drop_28 rfl rfl ?_
      refine z_get (pc := 29) (c := 0) (j := 9) (v := .ref (ad 7)) hX rfl zfl_RX6_28 (Nat.le_of_ble_eq_true rfl) (zMod_e (ca := ca) (f := m3 0)) rfl dX6_drop_29 ?_
      refine z_iload_n (pc := 32) hX 1 dX6_drop_32 rfl rfl ?_
      obtain ⟨x4, hx4, hi4, h⟩ := zrd_s h
      refine z_iald (pc := 33) (c := 7) hX zMi7 hi4 hx4 dX6_drop_33 ?_
      exact z_iret (pc := 34) hX rfl rfl (Prod.mk.inj (Option.some.inj h)).1 (Prod.mk.inj (Option.some.inj h)).2 dX6_drop_34
    · replace h := (if_pos hc5).symm.trans h
      refine z_bipush (pc := 18) hX dX6_drop_18 (by decide +kernel) ?_
      exact z_iret (pc := 20) hX rfl rfl (Prod.mk.inj (Option.some.inj h)).1 (Prod.mk.inj (Option.some.inj h)).2 dX6_drop_20
  · replace h := (if_pos hc6).symm.trans h
    refine z_iconst (pc := 7) hX dX6_drop_7 ?_
    exact z_iret (pc := 8) hX rfl rfl (Prod.mk.inj (Option.some.inj h)).1 (Prod.mk.inj (Option.some.inj h)).2 dX6_drop_8
def rmX6_ends : Room := { frames := 2, cells := 0, slots := 0, locals := 47 }
set_option maxRecDepth 20000 in
set_option maxHeartbeats 4000000 in
theorem wX6_ends_L34 {X : zXT} {l : Launch} {D : va_G} {ca : Nat → ClassId} {ad : Nat → Nat} (hG : zGok (zGM D ca ad)) {a1 : Int} {a2 : Int}  {r0 : Int} {m : zM}  (hX : zC X l rmX6_ends (zGM D ca ad) (some (.int (zI r0))) m cX6_ends 5 RX6 (some .int)) {k : Int → Int → Option (Int)} (hk : ∀ (v3 : Int) (v4 : Int), k v3 v4 = some r0 → zV X 5 m 62 [(0, .ref (ad 0)), (1, .int (zI a1)), (2, .int (zI a2)), (3, .int (zI v3)), (4, .int (zI v4))] []) : ∀ (n : Nat) (v3 : Int) (v4 : Int), FX6_ends_L34 a1 a2 m k n v3 v4 = some r0 → zV X 5 m 34 [(0, .ref (ad 0)), (1, .int (zI a1)), (2, .int (zI a2)), (3, .int (zI v3)), (4, .int (zI v4))] [] := by
  intro n
  induction n with
  | zero => intro v3 v4 h; cases h
  | succ n ih =>
    intro v3 v4 h
    replace h : FX6_ends_L34_B a1 a2 m k (FX6_ends_L34 a1 a2 m k n) v3 v4 = some r0 := h
    unfold FX6_ends_L34_B at h
    refine z_iload (pc := 34) hX 4 dX6_ends_34 rfl ?_
    refine z_if_le (pc := 36) (tgt := 62) hX dX6_ends_36 (by decide) (fun hc7 => ?_) (fun hc7 => ?_)
    · replace h := (if_neg hc7).symm.trans h
      exact hk _ _ h
    · replace h := (if_pos hc7).symm.trans h
      refine z_iload_n (pc := 39) hX 3 dX6_ends_39 rfl rfl ?_
      refine z_iload_n (pc := 40) hX 2 dX6_ends_40 rfl rfl ?_
      refine z_icmp_ne (pc := 41) (tgt := 47) hX dX6_ends_41 (by decide) (fun hc6 => ?_) (fun hc6 => ?_)
      · replace h := (if_neg hc6).symm.trans h
        refine z_iinc (pc := 47) (lv' := [(3, .int (zI (v3 + 1))), (0, .ref (ad 0)), (1, .int (zI a1)), (2, .int (zI a2)), (4, .int (zI v4))]) hX 3 dX6_ends_47 rfl (by decide) rfl ?_
        refine z_aload_n (pc := 50) hX 1 dX6_ends_50 rfl rfl ?_
        refine z_iload_n (pc := 51) hX 2 dX6_ends_51 rfl rfl ?_
        refine z_iload (pc := 52) hX 4 dX6_ends_52 rfl ?_
        obtain ⟨r5, hr5, h⟩ := zcl_s h
        refine z_callVr (pc := 54) (c := 0) hX [.int (zI a1), .int (zI v4)] [] (wX6_endsBelow (ca := ca) hG  hr5) rfl zmv_RX6_57 (Nat.le_of_ble_eq_true rfl) (zMod_e (ca := ca) (f := m 0)) rfl rfl ⟨rfl, rfl⟩ ⟨by decide, by decide⟩ (Nat.le_of_ble_eq_true rfl) dX6_ends_54 ?_
        refine z_istore (pc := 57) (lv' := [(4, .int (zI r5)), (3, .int (zI (v3 + 1))), (0, .ref (ad 0)), (1, .int (zI a1)), (2, .int (zI a2))]) hX dX6_ends_57 (by decide) rfl ?_
        refine z_goto (pc := 59) (tgt := 34) hX dX6_ends_59 (by decide) ?_
        refine z_sub [2, 3, 4, 1, 0] rfl ?_
        exact ih _ _ h
      · replace h := (if_pos hc6).symm.trans h
        refine z_iload (pc := 44) hX 4 dX6_ends_44 rfl ?_
        exact z_iret (pc := 46) hX rfl rfl (Option.some.inj h) rfl dX6_ends_46
set_option maxRecDepth 20000 in
set_option maxHeartbeats 4000000 in
theorem wX6_ends {l : Launch} {D : va_G} {ca : Nat → ClassId} {ad : Nat → Nat} (hG : zGok (zGM D ca ad)) {a1 : Int} {a2 : Int} {r0 : Int} {m : zM} (h : FX6_ends a1 a2 m = some r0) : zCt l (zGM D ca ad) yX6_ends cX6_ends 5 (some .int) rmX6_ends [.ref (ad 0), .int (zI a1), .int (zI a2)] m (some (.int (zI r0))) m := by
  unfold FX6_ends at h
  refine z_of (plainFor_of_name (by decide +kernel)) hG (Nat.le_of_ble_eq_true rfl) (fun X hX => ?_)
  show zV X 5 m 0 [(0, .ref (ad 0)), (1, .int (zI a1)), (2, .int (zI a2))] []
  refine z_iload_n (pc := 0) hX 1 dX6_ends_0 rfl rfl ?_
  obtain ⟨g1, h⟩ := zgd_s h
  refine z_i2l (pc := 1) hX g1 dX6_ends_1 ?_
  refine z_lconst (pc := 2) (a := 0) hX dX6_ends_2 (by decide +kernel) ?_
  refine z_aload_n (pc := 3) hX 0 dX6_ends_3 rfl rfl ?_
  refine z_get (pc := 4) (c := 0) (j := 0) (v := .int (zI (m 0 0))) hX rfl zfl_RX6_69 (Nat.le_of_ble_eq_true rfl) (zMod_e (ca := ca) (f := m 0)) rfl dX6_ends_4 ?_
  refine z_iconst (pc := 7) hX dX6_ends_7 ?_
  refine z_isub (pc := 8) hX dX6_ends_8 ?_
  obtain ⟨g2, h⟩ := zgd_s h
  refine z_i2l (pc := 9) hX g2 dX6_ends_9 ?_
  obtain ⟨r3, hr3, h⟩ := zcl_s h
  refine z_callSr (pc := 10) hX [.long (zJ a1), .long (zJ 0), .long (zJ ((m 0 0) - 1))] [] (wX6_within (ca := ca) hG  hr3) zms_RX6_90 rfl rfl ⟨rfl, rfl⟩ ⟨by decide, by decide⟩ (Nat.le_of_ble_eq_true rfl) dX6_ends_10 ?_
  refine z_if_eq (pc := 13) (tgt := 21) hX dX6_ends_13 (by decide) (fun hc10 => ?_) (fun hc10 => ?_)
  · replace h := (if_pos hc10).symm.trans h
    refine z_iconst (pc := 21) hX dX6_ends_21 ?_
    exact z_iret (pc := 22) hX rfl rfl (Option.some.inj h) rfl dX6_ends_22
  · replace h := (if_neg hc10).symm.trans h
    refine z_iload_n (pc := 16) hX 2 dX6_ends_16 rfl rfl ?_
    refine z_iconst (pc := 17) hX dX6_ends_17 ?_
    refine z_icmp_ge (pc := 18) (tgt := 23) hX dX6_ends_18 (by decide) (fun hc9 => ?_) (fun hc9 => ?_)
    · replace h := (if_neg hc9).symm.trans h
      refine z_iconst (pc := 23) hX dX6_ends_23 ?_
      refine z_istore_n (pc := 24) (lv' := [(3, .int (zI 0)), (0, .ref (ad 0)), (1, .int (zI a1)), (2, .int (zI a2))]) hX dX6_ends_24 rfl (by decide) rfl ?_
      refine z_aload_n (pc := 25) hX 1 dX6_ends_25 rfl rfl ?_
      refine z_iload_n (pc := 26) hX 2 dX6_ends_26 rfl rfl ?_
      refine z_bipush (pc := 27) hX dX6_ends_27 (by decide +kernel) ?_
      obtain ⟨r4, hr4, h⟩ := zcl_s h
      refine z_callVr (pc := 29) (c := 0) hX [.int (zI a1), .int (zI 49)] [] (wX6_endsBelow (ca := ca) hG  hr4) rfl zmv_RX6_57 (Nat.le_of_ble_eq_true rfl) (zMod_e (ca := ca) (f := m 0)) rfl rfl ⟨rfl, rfl⟩ ⟨by decide, by decide⟩ (Nat.le_of_ble_eq_true rfl) dX6_ends_29 ?_
      refine z_istore (pc := 32) (lv' := [(4, .int (zI r4)), (3, .int (zI 0)), (0, .ref (ad 0)), (1, .int (zI a1)), (2, .int (zI a2))]) hX dX6_ends_32 (by decide) rfl ?_
      refine z_sub [2, 3, 4, 1, 0] rfl ?_
      refine wX6_ends_L34 hG  hX (fun y34_3 y34_4 h => ?_) _ _ _ h
      refine z_iload_n (pc := 62) hX 2 dX6_ends_62 rfl rfl ?_
      refine z_iconst (pc := 63) hX dX6_ends_63 ?_
      refine z_icmp_ne (pc := 64) (tgt := 71) hX dX6_ends_64 (by decide) (fun hc8 => ?_) (fun hc8 => ?_)
      · replace h := (if_neg hc8).symm.trans h
        refine z_bipush (pc := 71) hX dX6_ends_71 (by decide +kernel) ?_
        exact z_iret (pc := 73) hX rfl rfl (Option.some.inj h) rfl dX6_ends_73
      · replace h := (if_pos hc8).symm.trans h
        refine z_iload_n (pc := 67) hX 3 dX6_ends_67 rfl rfl ?_
        refine z_goto (pc := 68) (tgt := 73) hX dX6_ends_68 (by decide) ?_
        exact z_iret (pc := 73) hX rfl rfl (Option.some.inj h) rfl dX6_ends_73
    · replace h := (if_pos hc9).symm.trans h
      refine z_iconst (pc := 21) hX dX6_ends_21 ?_
      exact z_iret (pc := 22) hX rfl rfl (Option.some.inj h) rfl dX6_ends_22
def rmX6_evens : Room := { frames := 2, cells := 0, slots := 0, locals := 48 }
set_option maxRecDepth 20000 in
set_option maxHeartbeats 4000000 in
theorem wX6_evens {l : Launch} {D : va_G} {ca : Nat → ClassId} {ad : Nat → Nat} (hG : zGok (zGM D ca ad)) {a1 : Int} {r0 : Int} {m0 : zM} {m : zM} (h : FX6_evens a1 m = some (r0, m0)) : zCt l (zGM D ca ad) yX6_evens cX6_evens 2 (some .int) rmX6_evens [.ref (ad 0), .int (zI a1)] m (some (.int (zI r0))) m0 := by
  unfold FX6_evens at h
  refine z_of (plainFor_of_name (by decide +kernel)) hG (Nat.le_of_ble_eq_true rfl) (fun X hX => ?_)
  show zV X 2 m 0 [(0, .ref (ad 0)), (1, .int (zI a1))] []
  refine z_iload_n (pc := 0) hX 1 dX6_evens_0 rfl rfl ?_
  obtain ⟨g1, h⟩ := zgd_s h
  refine z_i2l (pc := 1) hX g1 dX6_evens_1 ?_
  refine z_lconst (pc := 2) (a := 0) hX dX6_evens_2 (by decide +kernel) ?_
  refine z_aload_n (pc := 3) hX 0 dX6_evens_3 rfl rfl ?_
  refine z_get (pc := 4) (c := 0) (j := 0) (v := .int (zI (m 0 0))) hX rfl zfl_RX6_69 (Nat.le_of_ble_eq_true rfl) (zMod_e (ca := ca) (f := m 0)) rfl dX6_evens_4 ?_
  obtain ⟨g2, h⟩ := zgd_s h
  refine z_i2l (pc := 7) hX g2 dX6_evens_7 ?_
  obtain ⟨r3, hr3, h⟩ := zcl_s h
  refine z_callSr (pc := 8) hX [.long (zJ a1), .long (zJ 0), .long (zJ (m 0 0))] [] (wX6_within (ca := ca) hG  hr3) zms_RX6_90 rfl rfl ⟨rfl, rfl⟩ ⟨by decide, by decide⟩ (Nat.le_of_ble_eq_true rfl) dX6_evens_8 ?_
  refine z_if_ne (pc := 11) (tgt := 16) hX dX6_evens_11 (by decide) (fun hc8 => ?_) (fun hc8 => ?_)
  · replace h := (if_neg hc8).symm.trans h
    refine z_aload_n (pc := 16) hX 0 dX6_evens_16 rfl rfl ?_
    refine z_iload_n (pc := 17) hX 1 dX6_evens_17 rfl rfl ?_
    refine z_iconst (pc := 18) hX dX6_evens_18 ?_
    obtain ⟨m4, hr4, h⟩ := zcl_s h
    refine z_callVv (pc := 19) (v := .null) (c := 0) hX [.int (zI a1), .int (zI 2)] [] (wX6_layCuts (ca := ca) hG  hr4) rfl zmv_RX6_126 (Nat.le_of_ble_eq_true rfl) (zMod_e (ca := ca) (f := m 0)) rfl rfl ⟨rfl, rfl⟩ ⟨by decide, by decide⟩ (Nat.le_of_ble_eq_true rfl) dX6_evens_19 ?_
    refine z_aload_n (pc := 22) hX 0 dX6_evens_22 rfl rfl ?_
    refine z_get (pc := 23) (c := 0) (j := 15) (v := .ref (ad 12)) hX rfl zfl_RX6_44 (Nat.le_of_ble_eq_true rfl) (zMod_e (ca := ca) (f := m4 0)) rfl dX6_evens_23 ?_
    refine z_iconst (pc := 26) hX dX6_evens_26 ?_
    obtain ⟨x5, hx5, hi5, h⟩ := zrd_s h
    refine z_iald (pc := 27) (c := 12) hX zMi12 hi5 hx5 dX6_evens_27 ?_
    refine z_bipush (pc := 28) hX dX6_evens_28 (by decide +kernel) ?_
    refine z_icmp_ge (pc := 30) (tgt := 42) hX dX6_evens_30 (by decide) (fun hc7 => ?_) (fun hc7 => ?_)
    · replace h := (if_neg hc7).symm.trans h
      refine z_bipush (pc := 42) hX dX6_evens_42 (by decide +kernel) ?_
      exact z_iret (pc := 44) hX rfl rfl (Prod.mk.inj (Option.some.inj h)).1 (Prod.mk.inj (Option.some.inj h)).2 dX6_evens_44
    · replace h := (if_pos hc7).symm.trans h
      refine z_aload_n (pc := 33) hX 0 dX6_evens_33 rfl rfl ?_
      refine z_get (pc := 34) (c := 0) (j := 15) (v := .ref (ad 12)) hX rfl zfl_RX6_44 (Nat.le_of_ble_eq_true rfl) (zMod_e (ca := ca) (f := m4 0)) rfl dX6_evens_34 ?_
      refine z_iconst (pc := 37) hX dX6_evens_37 ?_
      obtain ⟨x6, hx6, hi6, h⟩ := zrd_s h
      refine z_iald (pc := 38) (c := 12) hX zMi12 hi6 hx6 dX6_evens_38 ?_
      refine z_goto (pc := 39) (tgt := 44) hX dX6_evens_39 (by decide) ?_
      exact z_iret (pc := 44) hX rfl rfl (Prod.mk.inj (Option.some.inj h)).1 (Prod.mk.inj (Option.some.inj h)).2 dX6_evens_44
  · replace h := (if_pos hc8).symm.trans h
    refine z_iconst (pc := 14) hX dX6_evens_14 ?_
    exact z_iret (pc := 15) hX rfl rfl (Prod.mk.inj (Option.some.inj h)).1 (Prod.mk.inj (Option.some.inj h)).2 dX6_evens_15
def rmX6_feed : Room := { frames := 1, cells := 0, slots := 0, locals := 25 }
set_option maxRecDepth 20000 in
set_option maxHeartbeats 4000000 in
theorem wX6_feed {l : Launch} {D : va_G} {ca : Nat → ClassId} {ad : Nat → Nat} (hG : zGok (zGM D ca ad)) {a1 : Int} {r0 : Int} {m0 : zM} {m : zM} (h : FX6_feed a1 m = some (r0, m0)) : zCt l (zGM D ca ad) yX6_feed cX6_feed 2 (some .int) rmX6_feed [.ref (ad 0), .int (zI a1)] m (some (.int (zI r0))) m0 := by
  unfold FX6_feed at h
  refine z_of (plainFor_of_name (by decide +kernel)) hG (Nat.le_of_ble_eq_true rfl) (fun X hX => ?_)
  show zV X 2 m 0 [(0, .ref (ad 0)), (1, .int (zI a1))] []
  refine z_iload_n (pc := 0) hX 1 dX6_feed_0 rfl rfl ?_
  obtain ⟨g1, h⟩ := zgd_s h
  refine z_i2l (pc := 1) hX g1 dX6_feed_1 ?_
  refine z_lconst (pc := 2) (a := 0) hX dX6_feed_2 (by decide +kernel) ?_
  refine z_ldc2 (pc := 3) (n := 255) hX zk_RX6_166 (by decide +kernel) dX6_feed_3 ?_
  obtain ⟨r2, hr2, h⟩ := zcl_s h
  refine z_callSr (pc := 6) hX [.long (zJ a1), .long (zJ 0), .long (zJ 255)] [] (wX6_within (ca := ca) hG  hr2) zms_RX6_90 rfl rfl ⟨rfl, rfl⟩ ⟨by decide, by decide⟩ (Nat.le_of_ble_eq_true rfl) dX6_feed_6 ?_
  refine z_if_ne (pc := 9) (tgt := 14) hX dX6_feed_9 (by decide) (fun hc6 => ?_) (fun hc6 => ?_)
  · replace h := (if_neg hc6).symm.trans h
    refine z_aload_n (pc := 14) hX 0 dX6_feed_14 rfl rfl ?_
    refine z_get (pc := 15) (c := 0) (j := 6) (v := .int (zI (m 0 6))) hX rfl zfl_RX6_168 (Nat.le_of_ble_eq_true rfl) (zMod_e (ca := ca) (f := m 0)) rfl dX6_feed_15 ?_
    refine z_bipush (pc := 18) hX dX6_feed_18 (by decide +kernel) ?_
    refine z_icmp_ne (pc := 20) (tgt := 26) hX dX6_feed_20 (by decide) (fun hc5 => ?_) (fun hc5 => ?_)
    · replace h := (if_neg hc5).symm.trans h
      refine z_aload_n (pc := 26) hX 0 dX6_feed_26 rfl rfl ?_
      refine z_get (pc := 27) (c := 0) (j := 7) (v := .ref (ad 5)) hX rfl zfl_RX6_22 (Nat.le_of_ble_eq_true rfl) (zMod_e (ca := ca) (f := m 0)) rfl dX6_feed_27 ?_
      refine z_aload_n (pc := 30) hX 0 dX6_feed_30 rfl rfl ?_
      refine z_get (pc := 31) (c := 0) (j := 6) (v := .int (zI (m 0 6))) hX rfl zfl_RX6_168 (Nat.le_of_ble_eq_true rfl) (zMod_e (ca := ca) (f := m 0)) rfl dX6_feed_31 ?_
      refine z_iload_n (pc := 34) hX 1 dX6_feed_34 rfl rfl ?_
      obtain ⟨m3, hm3, hi3, h⟩ := zwr_s h
      refine z_iast (pc := 35) (c := 5) hX zMi5 hi3 hm3 dX6_feed_35 ?_
      refine z_aload_n (pc := 36) hX 0 dX6_feed_36 rfl rfl ?_
      refine z_dup (pc := 37) hX dX6_feed_37 rfl ?_
      refine z_get (pc := 38) (c := 0) (j := 6) (v := .int (zI (m3 0 6))) hX rfl zfl_RX6_168 (Nat.le_of_ble_eq_true rfl) (zMod_e (ca := ca) (f := m3 0)) rfl dX6_feed_38 ?_
      refine z_iconst (pc := 41) hX dX6_feed_41 ?_
      refine z_iadd (pc := 42) hX dX6_feed_42 ?_
      obtain ⟨m4, hm4, h⟩ := zpf_s h
      refine z_put (pc := 43) (c := 0) (j := 6) hX rfl zfl_RX6_168 zfi_6_6 (Nat.le_of_ble_eq_true rfl) (zMod_e (ca := ca) (f := m3 0)) (Nat.le_of_ble_eq_true rfl) (zMod_p6 (ca := ca)) hm4 dX6_feed_43 ?_
      refine z_aload_n (pc := 46) hX 0 dX6_feed_46 rfl rfl ?_
      refine z_get (pc := 47) (c := 0) (j := 6) (v := .int (zI (m4 0 6))) hX rfl zfl_RX6_168 (Nat.le_of_ble_eq_true rfl) (zMod_e (ca := ca) (f := m4 0)) rfl dX6_feed_47 ?_
      exact z_iret (pc := 50) hX rfl rfl (Prod.mk.inj (Option.some.inj h)).1 (Prod.mk.inj (Option.some.inj h)).2 dX6_feed_50
    · replace h := (if_pos hc5).symm.trans h
      refine z_bipush (pc := 23) hX dX6_feed_23 (by decide +kernel) ?_
      exact z_iret (pc := 25) hX rfl rfl (Prod.mk.inj (Option.some.inj h)).1 (Prod.mk.inj (Option.some.inj h)).2 dX6_feed_25
  · replace h := (if_pos hc6).symm.trans h
    refine z_iconst (pc := 12) hX dX6_feed_12 ?_
    exact z_iret (pc := 13) hX rfl rfl (Prod.mk.inj (Option.some.inj h)).1 (Prod.mk.inj (Option.some.inj h)).2 dX6_feed_13
def rmX6_fill : Room := { frames := 0, cells := 0, slots := 0, locals := 0 }
set_option maxRecDepth 20000 in
set_option maxHeartbeats 4000000 in
theorem wX6_fill_L2 {X : zXT} {l : Launch} {D : va_G} {ca : Nat → ClassId} {ad : Nat → Nat} (hG : zGok (zGM D ca ad))   {r0 : Int} {m0 : zM}  (hX : zC X l rmX6_fill (zGM D ca ad) (some (.int (zI r0))) m0 cX6_fill 6 RX6 (some .int)) {k : Int → zM → Option (Int × zM)} (hk : ∀ (v1 : Int) (m_ : zM), k v1 m_ = some (r0, m0) → zV X 6 m_ 28 [(0, .ref (ad 0)), (1, .int (zI v1))] []) : ∀ (n : Nat) (v1 : Int) (m_ : zM), FX6_fill_L2  k n v1 m_ = some (r0, m0) → zV X 6 m_ 2 [(0, .ref (ad 0)), (1, .int (zI v1))] [] := by
  intro n
  induction n with
  | zero => intro v1 m_ h; cases h
  | succ n ih =>
    intro v1 m_ h
    replace h : FX6_fill_L2_B  k (FX6_fill_L2  k n) v1 m_ = some (r0, m0) := h
    unfold FX6_fill_L2_B at h
    refine z_iload_n (pc := 2) hX 1 dX6_fill_2 rfl rfl ?_
    refine z_bipush (pc := 3) hX dX6_fill_3 (by decide +kernel) ?_
    refine z_icmp_ge (pc := 5) (tgt := 28) hX dX6_fill_5 (by decide) (fun hc3 => ?_) (fun hc3 => ?_)
    · replace h := (if_neg hc3).symm.trans h
      exact hk _ _ h
    · replace h := (if_pos hc3).symm.trans h
      refine z_aload_n (pc := 8) hX 0 dX6_fill_8 rfl rfl ?_
      refine z_get (pc := 9) (c := 0) (j := 15) (v := .ref (ad 12)) hX rfl zfl_RX6_44 (Nat.le_of_ble_eq_true rfl) (zMod_e (ca := ca) (f := m_ 0)) rfl dX6_fill_9 ?_
      refine z_iload_n (pc := 12) hX 1 dX6_fill_12 rfl rfl ?_
      refine z_iconst (pc := 13) hX dX6_fill_13 ?_
      obtain ⟨m1, hm1, hi1, h⟩ := zwr_s h
      refine z_iast (pc := 14) (c := 12) hX zMi12 hi1 hm1 dX6_fill_14 ?_
      refine z_aload_n (pc := 15) hX 0 dX6_fill_15 rfl rfl ?_
      refine z_get (pc := 16) (c := 0) (j := 17) (v := .ref (ad 14)) hX rfl zfl_RX6_50 (Nat.le_of_ble_eq_true rfl) (zMod_e (ca := ca) (f := m1 0)) rfl dX6_fill_16 ?_
      refine z_iload_n (pc := 19) hX 1 dX6_fill_19 rfl rfl ?_
      refine z_iconst (pc := 20) hX dX6_fill_20 ?_
      obtain ⟨m2, hm2, hi2, h⟩ := zwr_s h
      refine z_iast (pc := 21) (c := 14) hX zMi14 hi2 hm2 dX6_fill_21 ?_
      refine z_iinc (pc := 22) (lv' := [(1, .int (zI (v1 + 1))), (0, .ref (ad 0))]) hX 1 dX6_fill_22 rfl (by decide) rfl ?_
      refine z_goto (pc := 25) (tgt := 2) hX dX6_fill_25 (by decide) ?_
      refine z_sub [1, 0] rfl ?_
      exact ih _ _ h
set_option maxRecDepth 20000 in
set_option maxHeartbeats 4000000 in
theorem wX6_fill_L42 {X : zXT} {l : Launch} {D : va_G} {ca : Nat → ClassId} {ad : Nat → Nat} (hG : zGok (zGM D ca ad))   {r0 : Int} {m0 : zM} {k2 : Int} (hX : zC X l rmX6_fill (zGM D ca ad) (some (.int (zI r0))) m0 cX6_fill 6 RX6 (some .int)) {k : Int → zM → Option (Int × zM)} (hk : ∀ (v3 : Int) (m_ : zM), k v3 m_ = some (r0, m0) → zV X 6 m_ 162 [(0, .ref (ad 0)), (2, .int (zI k2)), (3, .int (zI v3))] []) : ∀ (n : Nat) (v3 : Int) (m_ : zM), FX6_fill_L42 k2 k n v3 m_ = some (r0, m0) → zV X 6 m_ 42 [(0, .ref (ad 0)), (2, .int (zI k2)), (3, .int (zI v3))] [] := by
  intro n
  induction n with
  | zero => intro v3 m_ h; cases h
  | succ n ih =>
    intro v3 m_ h
    replace h : FX6_fill_L42_B k2 k (FX6_fill_L42 k2 k n) v3 m_ = some (r0, m0) := h
    unfold FX6_fill_L42_B at h
    refine z_iload_n (pc := 42) hX 2 dX6_fill_42 rfl rfl ?_
    refine z_iload_n (pc := 43) hX 1 dX6_fill_43 rfl rfl ?_
    refine z_iadd (pc := 44) hX dX6_fill_44 ?_
    refine z_aload_n (pc := 45) hX 0 dX6_fill_45 rfl rfl ?_
    refine z_get (pc := 46) (c := 0) (j := 0) (v := .int (zI (m_ 0 0))) hX rfl zfl_RX6_69 (Nat.le_of_ble_eq_true rfl) (zMod_e (ca := ca) (f := m_ 0)) rfl dX6_fill_46 ?_
    refine z_icmp_gt (pc := 49) (tgt := 162) hX dX6_fill_49 (by decide) (fun hc17 => ?_) (fun hc17 => ?_)
    · replace h := (if_pos hc17).symm.trans h
      exact hk _ _ h
    · replace h := (if_neg hc17).symm.trans h
      refine z_aload_n (pc := 52) hX 0 dX6_fill_52 rfl rfl ?_
      refine z_get (pc := 53) (c := 0) (j := 1) (v := .ref (ad 1)) hX rfl zfl_RX6_7 (Nat.le_of_ble_eq_true rfl) (zMod_e (ca := ca) (f := m_ 0)) rfl dX6_fill_53 ?_
      refine z_iload_n (pc := 56) hX 2 dX6_fill_56 rfl rfl ?_
      obtain ⟨x4, hx4, hi4, h⟩ := zrd_s h
      refine z_iald (pc := 57) (c := 1) hX zMi1 hi4 hx4 dX6_fill_57 ?_
      refine z_aload_n (pc := 58) hX 0 dX6_fill_58 rfl rfl ?_
      refine z_get (pc := 59) (c := 0) (j := 1) (v := .ref (ad 1)) hX rfl zfl_RX6_7 (Nat.le_of_ble_eq_true rfl) (zMod_e (ca := ca) (f := m_ 0)) rfl dX6_fill_59 ?_
      refine z_iload_n (pc := 62) hX 2 dX6_fill_62 rfl rfl ?_
      refine z_iload_n (pc := 63) hX 1 dX6_fill_63 rfl rfl ?_
      refine z_iadd (pc := 64) hX dX6_fill_64 ?_
      refine z_iconst (pc := 65) hX dX6_fill_65 ?_
      refine z_isub (pc := 66) hX dX6_fill_66 ?_
      obtain ⟨x5, hx5, hi5, h⟩ := zrd_s h
      refine z_iald (pc := 67) (c := 1) hX zMi1 hi5 hx5 dX6_fill_67 ?_
      obtain ⟨j76, hj76, h⟩ := zjn_s h (fun (j : Int → Option (Int × zM)) => ∀ (s76_0 : Int), j s76_0 = some (r0, m0) → zV X 6 m_ 76 [(0, .ref (ad 0)), (2, .int (zI k2)), (3, .int (zI v3))] [.int (zI s76_0)]) (fun s76_0 h => by
          refine z_istore (pc := 76) (lv' := [(4, .int (zI s76_0)), (0, .ref (ad 0)), (2, .int (zI k2)), (3, .int (zI v3))]) hX dX6_fill_76 (by decide) rfl ?_
          refine z_aload_n (pc := 78) hX 1 dX6_fill_78 rfl rfl ?_
          refine z_get (pc := 79) (c := 0) (j := 15) (v := .ref (ad 12)) hX rfl zfl_RX6_44 (Nat.le_of_ble_eq_true rfl) (zMod_e (ca := ca) (f := m_ 0)) rfl dX6_fill_79 ?_
          refine z_iload_n (pc := 82) hX 3 dX6_fill_82 rfl rfl ?_
          obtain ⟨x6, hx6, hi6, h⟩ := zrd_s h
          refine z_iald (pc := 83) (c := 12) hX zMi12 hi6 hx6 dX6_fill_83 ?_
          refine z_aload_n (pc := 84) hX 1 dX6_fill_84 rfl rfl ?_
          refine z_get (pc := 85) (c := 0) (j := 15) (v := .ref (ad 12)) hX rfl zfl_RX6_44 (Nat.le_of_ble_eq_true rfl) (zMod_e (ca := ca) (f := m_ 0)) rfl dX6_fill_85 ?_
          refine z_iload_n (pc := 88) hX 3 dX6_fill_88 rfl rfl ?_
          refine z_iconst (pc := 89) hX dX6_fill_89 ?_
          refine z_iadd (pc := 90) hX dX6_fill_90 ?_
          obtain ⟨x7, hx7, hi7, h⟩ := zrd_s h
          refine z_iald (pc := 91) (c := 12) hX zMi12 hi7 hx7 dX6_fill_91 ?_
          obtain ⟨j116, hj116, h⟩ := zjn_s h (fun (j : Int → Option (Int × zM)) => ∀ (s116_0 : Int), j s116_0 = some (r0, m0) → zV X 6 m_ 116 [(0, .ref (ad 0)), (2, .int (zI k2)), (3, .int (zI v3)), (4, .int (zI s76_0))] [.int (zI s116_0)]) (fun s116_0 h => by
              refine z_istore (pc := 116) (lv' := [(5, .int (zI s116_0)), (0, .ref (ad 0)), (2, .int (zI k2)), (3, .int (zI v3)), (4, .int (zI s76_0))]) hX dX6_fill_116 (by decide) rfl ?_
              refine z_iload (pc := 118) hX 4 dX6_fill_118 rfl ?_
              obtain ⟨j136, hj136, h⟩ := zjn_s h (fun (j : Int → Option (Int × zM)) => ∀ (s136_0 : Int), j s136_0 = some (r0, m0) → zV X 6 m_ 136 [(0, .ref (ad 0)), (2, .int (zI k2)), (3, .int (zI v3))] [.int (zI s136_0)]) (fun s136_0 h => by
                  refine z_istore_n (pc := 136) (lv' := [(1, .int (zI s136_0)), (0, .ref (ad 0)), (2, .int (zI k2)), (3, .int (zI v3))]) hX dX6_fill_136 rfl (by decide) rfl ?_
                  refine z_aload_n (pc := 137) hX 1 dX6_fill_137 rfl rfl ?_
                  refine z_get (pc := 138) (c := 0) (j := 17) (v := .ref (ad 14)) hX rfl zfl_RX6_50 (Nat.le_of_ble_eq_true rfl) (zMod_e (ca := ca) (f := m_ 0)) rfl dX6_fill_138 ?_
                  refine z_iload_n (pc := 141) hX 3 dX6_fill_141 rfl rfl ?_
                  refine z_aload_n (pc := 142) hX 1 dX6_fill_142 rfl rfl ?_
                  refine z_get (pc := 143) (c := 0) (j := 15) (v := .ref (ad 12)) hX rfl zfl_RX6_44 (Nat.le_of_ble_eq_true rfl) (zMod_e (ca := ca) (f := m_ 0)) rfl dX6_fill_143 ?_
                  refine z_iload_n (pc := 146) hX 3 dX6_fill_146 rfl rfl ?_
                  obtain ⟨x8, hx8, hi8, h⟩ := zrd_s h
                  refine z_iald (pc := 147) (c := 12) hX zMi12 hi8 hx8 dX6_fill_147 ?_
                  obtain ⟨m9, hm9, hi9, h⟩ := zwr_s h
                  refine z_iast (pc := 148) (c := 14) hX zMi14 hi9 hm9 dX6_fill_148 ?_
                  refine z_aload_n (pc := 149) hX 1 dX6_fill_149 rfl rfl ?_
                  refine z_get (pc := 150) (c := 0) (j := 15) (v := .ref (ad 12)) hX rfl zfl_RX6_44 (Nat.le_of_ble_eq_true rfl) (zMod_e (ca := ca) (f := m9 0)) rfl dX6_fill_150 ?_
                  refine z_iload_n (pc := 153) hX 3 dX6_fill_153 rfl rfl ?_
                  refine z_iload_n (pc := 154) hX 0 dX6_fill_154 rfl rfl ?_
                  obtain ⟨m10, hm10, hi10, h⟩ := zwr_s h
                  refine z_iast (pc := 155) (c := 12) hX zMi12 hi10 hm10 dX6_fill_155 ?_
                  refine z_iinc (pc := 156) (lv' := [(3, .int (zI (v3 + 1))), (1, .int (zI s136_0)), (0, .ref (ad 0)), (2, .int (zI k2))]) hX 3 dX6_fill_156 rfl (by decide) rfl ?_
                  refine z_goto (pc := 159) (tgt := 42) hX dX6_fill_159 (by decide) ?_
                  refine z_sub [2, 3, 0] rfl ?_
                  exact ih _ _ h
                  )
              refine z_if_eq (pc := 120) (tgt := 134) hX dX6_fill_120 (by decide) (fun hc12 => ?_) (fun hc12 => ?_)
              · replace h := (if_pos hc12).symm.trans h
                refine z_iload (pc := 134) hX 0 dX6_fill_134 rfl ?_
                refine z_sub [1, 2, 3] rfl ?_
                exact hj136 _ h
              · replace h := (if_neg hc12).symm.trans h
                refine z_aload_n (pc := 123) hX 1 dX6_fill_123 rfl rfl ?_
                refine z_get (pc := 124) (c := 0) (j := 17) (v := .ref (ad 14)) hX rfl zfl_RX6_50 (Nat.le_of_ble_eq_true rfl) (zMod_e (ca := ca) (f := m_ 0)) rfl dX6_fill_124 ?_
                refine z_iload_n (pc := 127) hX 3 dX6_fill_127 rfl rfl ?_
                refine z_iconst (pc := 128) hX dX6_fill_128 ?_
                refine z_iadd (pc := 129) hX dX6_fill_129 ?_
                obtain ⟨x11, hx11, hi11, h⟩ := zrd_s h
                refine z_iald (pc := 130) (c := 14) hX zMi14 hi11 hx11 dX6_fill_130 ?_
                refine z_goto (pc := 131) (tgt := 136) hX dX6_fill_131 (by decide) ?_
                refine z_sub [1, 2, 3] rfl ?_
                exact hj136 _ h
              )
          refine z_icmp_ge (pc := 92) (tgt := 106) hX dX6_fill_92 (by decide) (fun hc15 => ?_) (fun hc15 => ?_)
          · replace h := (if_neg hc15).symm.trans h
            refine z_aload_n (pc := 106) hX 1 dX6_fill_106 rfl rfl ?_
            refine z_get (pc := 107) (c := 0) (j := 15) (v := .ref (ad 12)) hX rfl zfl_RX6_44 (Nat.le_of_ble_eq_true rfl) (zMod_e (ca := ca) (f := m_ 0)) rfl dX6_fill_107 ?_
            refine z_iload_n (pc := 110) hX 3 dX6_fill_110 rfl rfl ?_
            refine z_iconst (pc := 111) hX dX6_fill_111 ?_
            refine z_iadd (pc := 112) hX dX6_fill_112 ?_
            obtain ⟨x13, hx13, hi13, h⟩ := zrd_s h
            refine z_iald (pc := 113) (c := 12) hX zMi12 hi13 hx13 dX6_fill_113 ?_
            refine z_iconst (pc := 114) hX dX6_fill_114 ?_
            refine z_iadd (pc := 115) hX dX6_fill_115 ?_
            refine z_sub [1, 2, 3, 0] rfl ?_
            exact hj116 _ h
          · replace h := (if_pos hc15).symm.trans h
            refine z_aload_n (pc := 95) hX 1 dX6_fill_95 rfl rfl ?_
            refine z_get (pc := 96) (c := 0) (j := 15) (v := .ref (ad 12)) hX rfl zfl_RX6_44 (Nat.le_of_ble_eq_true rfl) (zMod_e (ca := ca) (f := m_ 0)) rfl dX6_fill_96 ?_
            refine z_iload_n (pc := 99) hX 3 dX6_fill_99 rfl rfl ?_
            obtain ⟨x14, hx14, hi14, h⟩ := zrd_s h
            refine z_iald (pc := 100) (c := 12) hX zMi12 hi14 hx14 dX6_fill_100 ?_
            refine z_iconst (pc := 101) hX dX6_fill_101 ?_
            refine z_iadd (pc := 102) hX dX6_fill_102 ?_
            refine z_goto (pc := 103) (tgt := 116) hX dX6_fill_103 (by decide) ?_
            refine z_sub [1, 2, 3, 0] rfl ?_
            exact hj116 _ h
          )
      refine z_icmp_ne (pc := 68) (tgt := 75) hX dX6_fill_68 (by decide) (fun hc16 => ?_) (fun hc16 => ?_)
      · replace h := (if_neg hc16).symm.trans h
        refine z_iconst (pc := 75) hX dX6_fill_75 ?_
        exact hj76 _ h
      · replace h := (if_pos hc16).symm.trans h
        refine z_iconst (pc := 71) hX dX6_fill_71 ?_
        refine z_goto (pc := 72) (tgt := 76) hX dX6_fill_72 (by decide) ?_
        exact hj76 _ h
set_option maxRecDepth 20000 in
set_option maxHeartbeats 4000000 in
theorem wX6_fill_L32 {X : zXT} {l : Launch} {D : va_G} {ca : Nat → ClassId} {ad : Nat → Nat} (hG : zGok (zGM D ca ad))   {r0 : Int} {m0 : zM}  (hX : zC X l rmX6_fill (zGM D ca ad) (some (.int (zI r0))) m0 cX6_fill 6 RX6 (some .int)) {k : Int → zM → Option (Int × zM)} (hk : ∀ (v2 : Int) (m_ : zM), k v2 m_ = some (r0, m0) → zV X 6 m_ 168 [(0, .ref (ad 0)), (2, .int (zI v2))] []) : ∀ (n : Nat) (v2 : Int) (m_ : zM), FX6_fill_L32  k n v2 m_ = some (r0, m0) → zV X 6 m_ 32 [(0, .ref (ad 0)), (2, .int (zI v2))] [] := by
  intro n
  induction n with
  | zero => intro v2 m_ h; cases h
  | succ n ih =>
    intro v2 m_ h
    replace h : FX6_fill_L32_B  k (FX6_fill_L32  k n) v2 m_ = some (r0, m0) := h
    unfold FX6_fill_L32_B at h
    refine z_iload_n (pc := 32) hX 1 dX6_fill_32 rfl rfl ?_
    refine z_aload_n (pc := 33) hX 0 dX6_fill_33 rfl rfl ?_
    refine z_get (pc := 34) (c := 0) (j := 0) (v := .int (zI (m_ 0 0))) hX rfl zfl_RX6_69 (Nat.le_of_ble_eq_true rfl) (zMod_e (ca := ca) (f := m_ 0)) rfl dX6_fill_34 ?_
    refine z_icmp_gt (pc := 37) (tgt := 168) hX dX6_fill_37 (by decide) (fun hc18 => ?_) (fun hc18 => ?_)
    · replace h := (if_pos hc18).symm.trans h
      exact hk _ _ h
    · replace h := (if_neg hc18).symm.trans h
      refine z_iconst (pc := 40) hX dX6_fill_40 ?_
      refine z_istore_n (pc := 41) (lv' := [(3, .int (zI 0)), (0, .ref (ad 0)), (2, .int (zI v2))]) hX dX6_fill_41 rfl (by decide) rfl ?_
      refine z_sub [1, 2, 0] rfl ?_
      refine wX6_fill_L42 hG  hX (fun y42_3 m42_ h => ?_) _ _ _ h
      refine z_iinc (pc := 162) (lv' := [(2, .int (zI (v2 + 1))), (0, .ref (ad 0)), (3, .int (zI y42_3))]) hX 1 dX6_fill_162 rfl (by decide) rfl ?_
      refine z_goto (pc := 165) (tgt := 32) hX dX6_fill_165 (by decide) ?_
      refine z_sub [1, 0] rfl ?_
      exact ih _ _ h
set_option maxRecDepth 20000 in
set_option maxHeartbeats 4000000 in
theorem wX6_fill {l : Launch} {D : va_G} {ca : Nat → ClassId} {ad : Nat → Nat} (hG : zGok (zGM D ca ad))  {r0 : Int} {m0 : zM} {m : zM} (h : FX6_fill m = some (r0, m0)) : zCt l (zGM D ca ad) yX6_fill cX6_fill 6 (some .int) rmX6_fill [.ref (ad 0)] m (some (.int (zI r0))) m0 := by
  unfold FX6_fill at h
  refine z_of (plainFor_of_name (by decide +kernel)) hG (Nat.le_of_ble_eq_true rfl) (fun X hX => ?_)
  show zV X 6 m 0 [(0, .ref (ad 0))] []
  refine z_iconst (pc := 0) hX dX6_fill_0 ?_
  refine z_istore_n (pc := 1) (lv' := [(1, .int (zI 0)), (0, .ref (ad 0))]) hX dX6_fill_1 rfl (by decide) rfl ?_
  refine z_sub [1, 0] rfl ?_
  refine wX6_fill_L2 hG  hX (fun y2_1 m2_ h => ?_) _ _ _ h
  refine z_iconst (pc := 28) hX dX6_fill_28 ?_
  refine z_istore_n (pc := 29) (lv' := [(1, .int (zI 0)), (0, .ref (ad 0))]) hX dX6_fill_29 rfl (by decide) rfl ?_
  refine z_iconst (pc := 30) hX dX6_fill_30 ?_
  refine z_istore_n (pc := 31) (lv' := [(2, .int (zI 2)), (1, .int (zI 0)), (0, .ref (ad 0))]) hX dX6_fill_31 rfl (by decide) rfl ?_
  refine z_sub [2, 0] rfl ?_
  refine wX6_fill_L32 hG  hX (fun y32_2 m32_ h => ?_) _ _ _ h
  refine z_aload_n (pc := 168) hX 0 dX6_fill_168 rfl rfl ?_
  refine z_get (pc := 169) (c := 0) (j := 0) (v := .int (zI (m32_ 0 0))) hX rfl zfl_RX6_69 (Nat.le_of_ble_eq_true rfl) (zMod_e (ca := ca) (f := m32_ 0)) rfl dX6_fill_169 ?_
  refine z_if_ne (pc := 172) (tgt := 179) hX dX6_fill_172 (by decide) (fun hc20 => ?_) (fun hc20 => ?_)
  · replace h := (if_neg hc20).symm.trans h
    refine z_aload_n (pc := 179) hX 0 dX6_fill_179 rfl rfl ?_
    refine z_get (pc := 180) (c := 0) (j := 15) (v := .ref (ad 12)) hX rfl zfl_RX6_44 (Nat.le_of_ble_eq_true rfl) (zMod_e (ca := ca) (f := m32_ 0)) rfl dX6_fill_180 ?_
    refine z_iconst (pc := 183) hX dX6_fill_183 ?_
    obtain ⟨x19, hx19, hi19, h⟩ := zrd_s h
    refine z_iald (pc := 184) (c := 12) hX zMi12 hi19 hx19 dX6_fill_184 ?_
    exact z_iret (pc := 185) hX rfl rfl (Prod.mk.inj (Option.some.inj h)).1 (Prod.mk.inj (Option.some.inj h)).2 dX6_fill_185
  · replace h := (if_pos hc20).symm.trans h
    refine z_iconst (pc := 175) hX dX6_fill_175 ?_
    refine z_goto (pc := 176) (tgt := 185) hX dX6_fill_176 (by decide) ?_
    exact z_iret (pc := 185) hX rfl rfl (Prod.mk.inj (Option.some.inj h)).1 (Prod.mk.inj (Option.some.inj h)).2 dX6_fill_185
def rmX6_isTaped : Room := { frames := 0, cells := 0, slots := 0, locals := 0 }
set_option maxRecDepth 20000 in
set_option maxHeartbeats 4000000 in
theorem wX6_isTaped_L28 {X : zXT} {l : Launch} {D : va_G} {ca : Nat → ClassId} {ad : Nat → Nat} (hG : zGok (zGM D ca ad)) {a1 : Int}  {r0 : Int} {m : zM}  (hX : zC X l rmX6_isTaped (zGM D ca ad) (some (.int (zI r0))) m cX6_isTaped 4 RX6 (some .boolean)) {k : Int → Int → Option (Int)} (hk : ∀ (v2 : Int) (v3 : Int), k v2 v3 = some r0 → zV X 4 m 72 [(0, .ref (ad 0)), (1, .int (zI a1)), (2, .int (zI v2)), (3, .int (zI v3))] []) : ∀ (n : Nat) (v2 : Int) (v3 : Int), FX6_isTaped_L28 a1 m k n v2 v3 = some r0 → zV X 4 m 28 [(0, .ref (ad 0)), (1, .int (zI a1)), (2, .int (zI v2)), (3, .int (zI v3))] [] := by
  intro n
  induction n with
  | zero => intro v2 v3 h; cases h
  | succ n ih =>
    intro v2 v3 h
    replace h : FX6_isTaped_L28_B a1 m k (FX6_isTaped_L28 a1 m k n) v2 v3 = some r0 := h
    unfold FX6_isTaped_L28_B at h
    refine z_iload_n (pc := 28) hX 3 dX6_isTaped_28 rfl rfl ?_
    refine z_aload_n (pc := 29) hX 0 dX6_isTaped_29 rfl rfl ?_
    refine z_get (pc := 30) (c := 0) (j := 6) (v := .int (zI (m 0 6))) hX rfl zfl_RX6_168 (Nat.le_of_ble_eq_true rfl) (zMod_e (ca := ca) (f := m 0)) rfl dX6_isTaped_30 ?_
    refine z_icmp_ge (pc := 33) (tgt := 72) hX dX6_isTaped_33 (by decide) (fun hc5 => ?_) (fun hc5 => ?_)
    · replace h := (if_neg hc5).symm.trans h
      exact hk _ _ h
    · replace h := (if_pos hc5).symm.trans h
      refine z_iload_n (pc := 36) hX 2 dX6_isTaped_36 rfl rfl ?_
      refine z_if_eq (pc := 37) (tgt := 72) hX dX6_isTaped_37 (by decide) (fun hc4 => ?_) (fun hc4 => ?_)
      · replace h := (if_pos hc4).symm.trans h
        exact hk _ _ h
      · replace h := (if_neg hc4).symm.trans h
        refine z_aload_n (pc := 40) hX 0 dX6_isTaped_40 rfl rfl ?_
        refine z_get (pc := 41) (c := 0) (j := 7) (v := .ref (ad 5)) hX rfl zfl_RX6_22 (Nat.le_of_ble_eq_true rfl) (zMod_e (ca := ca) (f := m 0)) rfl dX6_isTaped_41 ?_
        refine z_iload_n (pc := 44) hX 3 dX6_isTaped_44 rfl rfl ?_
        obtain ⟨x1, hx1, hi1, h⟩ := zrd_s h
        refine z_iald (pc := 45) (c := 5) hX zMi5 hi1 hx1 dX6_isTaped_45 ?_
        refine z_bipush (pc := 46) hX dX6_isTaped_46 (by decide +kernel) ?_
        refine z_aload_n (pc := 48) hX 0 dX6_isTaped_48 rfl rfl ?_
        refine z_get (pc := 49) (c := 0) (j := 1) (v := .ref (ad 1)) hX rfl zfl_RX6_7 (Nat.le_of_ble_eq_true rfl) (zMod_e (ca := ca) (f := m 0)) rfl dX6_isTaped_49 ?_
        refine z_iload_n (pc := 52) hX 1 dX6_isTaped_52 rfl rfl ?_
        refine z_iload_n (pc := 53) hX 3 dX6_isTaped_53 rfl rfl ?_
        refine z_iadd (pc := 54) hX dX6_isTaped_54 ?_
        obtain ⟨x2, hx2, hi2, h⟩ := zrd_s h
        refine z_iald (pc := 55) (c := 1) hX zMi1 hi2 hx2 dX6_isTaped_55 ?_
        refine z_iadd (pc := 56) hX dX6_isTaped_56 ?_
        refine z_icmp_ne (pc := 57) (tgt := 64) hX dX6_isTaped_57 (by decide) (fun hc3 => ?_) (fun hc3 => ?_)
        · replace h := (if_neg hc3).symm.trans h
          refine z_iconst (pc := 64) hX dX6_isTaped_64 ?_
          refine z_istore_n (pc := 65) (lv' := [(2, .int (zI 0)), (0, .ref (ad 0)), (1, .int (zI a1)), (3, .int (zI v3))]) hX dX6_isTaped_65 rfl (by decide) rfl ?_
          refine z_iinc (pc := 66) (lv' := [(3, .int (zI (v3 + 1))), (2, .int (zI 0)), (0, .ref (ad 0)), (1, .int (zI a1))]) hX 3 dX6_isTaped_66 rfl (by decide) rfl ?_
          refine z_goto (pc := 69) (tgt := 28) hX dX6_isTaped_69 (by decide) ?_
          refine z_sub [2, 3, 1, 0] rfl ?_
          exact ih _ _ h
        · replace h := (if_pos hc3).symm.trans h
          refine z_iconst (pc := 60) hX dX6_isTaped_60 ?_
          refine z_goto (pc := 61) (tgt := 65) hX dX6_isTaped_61 (by decide) ?_
          refine z_istore_n (pc := 65) (lv' := [(2, .int (zI 1)), (0, .ref (ad 0)), (1, .int (zI a1)), (3, .int (zI v3))]) hX dX6_isTaped_65 rfl (by decide) rfl ?_
          refine z_iinc (pc := 66) (lv' := [(3, .int (zI (v3 + 1))), (2, .int (zI 1)), (0, .ref (ad 0)), (1, .int (zI a1))]) hX 3 dX6_isTaped_66 rfl (by decide) rfl ?_
          refine z_goto (pc := 69) (tgt := 28) hX dX6_isTaped_69 (by decide) ?_
          refine z_sub [2, 3, 1, 0] rfl ?_
          exact ih _ _ h
set_option maxRecDepth 20000 in
set_option maxHeartbeats 4000000 in
theorem wX6_isTaped {l : Launch} {D : va_G} {ca : Nat → ClassId} {ad : Nat → Nat} (hG : zGok (zGM D ca ad)) {a1 : Int} {r0 : Int} {m : zM} (h : FX6_isTaped a1 m = some r0) : zCt l (zGM D ca ad) yX6_isTaped cX6_isTaped 4 (some .boolean) rmX6_isTaped [.ref (ad 0), .int (zI a1)] m (some (.int (zI r0))) m := by
  unfold FX6_isTaped at h
  refine z_of (plainFor_of_name (by decide +kernel)) hG (Nat.le_of_ble_eq_true rfl) (fun X hX => ?_)
  show zV X 4 m 0 [(0, .ref (ad 0)), (1, .int (zI a1))] []
  refine z_aload_n (pc := 0) hX 0 dX6_isTaped_0 rfl rfl ?_
  refine z_get (pc := 1) (c := 0) (j := 6) (v := .int (zI (m 0 6))) hX rfl zfl_RX6_168 (Nat.le_of_ble_eq_true rfl) (zMod_e (ca := ca) (f := m 0)) rfl dX6_isTaped_1 ?_
  obtain ⟨j25, hj25, h⟩ := zjn_s h (fun (j : Int → Option (Int)) => ∀ (s25_0 : Int), j s25_0 = some r0 → zV X 4 m 25 [(0, .ref (ad 0)), (1, .int (zI a1))] [.int (zI s25_0)]) (fun s25_0 h => by
      refine z_istore_n (pc := 25) (lv' := [(2, .int (zI s25_0)), (0, .ref (ad 0)), (1, .int (zI a1))]) hX dX6_isTaped_25 rfl (by decide) rfl ?_
      refine z_iconst (pc := 26) hX dX6_isTaped_26 ?_
      refine z_istore_n (pc := 27) (lv' := [(3, .int (zI 0)), (2, .int (zI s25_0)), (0, .ref (ad 0)), (1, .int (zI a1))]) hX dX6_isTaped_27 rfl (by decide) rfl ?_
      refine z_sub [2, 3, 1, 0] rfl ?_
      refine wX6_isTaped_L28 hG  hX (fun y28_2 y28_3 h => ?_) _ _ _ h
      refine z_iload_n (pc := 72) hX 2 dX6_isTaped_72 rfl rfl ?_
      obtain ⟨g6, h⟩ := zgd_s h
      exact z_zret (pc := 73) hX rfl rfl g6 (Option.some.inj h) rfl dX6_isTaped_73
      )
  refine z_if_le (pc := 4) (tgt := 24) hX dX6_isTaped_4 (by decide) (fun hc8 => ?_) (fun hc8 => ?_)
  · replace h := (if_neg hc8).symm.trans h
    refine z_iconst (pc := 24) hX dX6_isTaped_24 ?_
    exact hj25 _ h
  · replace h := (if_pos hc8).symm.trans h
    refine z_iload_n (pc := 7) hX 1 dX6_isTaped_7 rfl rfl ?_
    refine z_aload_n (pc := 8) hX 0 dX6_isTaped_8 rfl rfl ?_
    refine z_get (pc := 9) (c := 0) (j := 6) (v := .int (zI (m 0 6))) hX rfl zfl_RX6_168 (Nat.le_of_ble_eq_true rfl) (zMod_e (ca := ca) (f := m 0)) rfl dX6_isTaped_9 ?_
    refine z_iadd (pc := 12) hX dX6_isTaped_12 ?_
    refine z_aload_n (pc := 13) hX 0 dX6_isTaped_13 rfl rfl ?_
    refine z_get (pc := 14) (c := 0) (j := 0) (v := .int (zI (m 0 0))) hX rfl zfl_RX6_69 (Nat.le_of_ble_eq_true rfl) (zMod_e (ca := ca) (f := m 0)) rfl dX6_isTaped_14 ?_
    refine z_icmp_gt (pc := 17) (tgt := 24) hX dX6_isTaped_17 (by decide) (fun hc7 => ?_) (fun hc7 => ?_)
    · replace h := (if_pos hc7).symm.trans h
      refine z_iconst (pc := 24) hX dX6_isTaped_24 ?_
      exact hj25 _ h
    · replace h := (if_neg hc7).symm.trans h
      refine z_iconst (pc := 20) hX dX6_isTaped_20 ?_
      refine z_goto (pc := 21) (tgt := 25) hX dX6_isTaped_21 (by decide) ?_
      exact hj25 _ h
def rmX6_find : Room := { frames := 4, cells := 0, slots := 0, locals := 93 }
set_option maxRecDepth 20000 in
set_option maxHeartbeats 4000000 in
theorem wX6_find_L9 {X : zXT} {l : Launch} {D : va_G} {ca : Nat → ClassId} {ad : Nat → Nat} (hG : zGok (zGM D ca ad))   {r0 : Int} {m0 : zM} {mc : zM}  (hX : zC X l rmX6_find (zGM D ca ad) (some (.int (zI r0))) m0 cX6_find 3 RX6 (some .int)) {k : Int → Int → Option (Int × zM)} (hk : ∀ (v1 : Int) (v2 : Int), k v1 v2 = some (r0, m0) → zV X 3 mc 55 [(0, .ref (ad 0)), (1, .int (zI v1)), (2, .int (zI v2))] []) : ∀ (n : Nat) (v1 : Int) (v2 : Int), FX6_find_L9 mc k n v1 v2 = some (r0, m0) → zV X 3 mc 9 [(0, .ref (ad 0)), (1, .int (zI v1)), (2, .int (zI v2))] [] := by
  intro n
  induction n with
  | zero => intro v1 v2 h; cases h
  | succ n ih =>
    intro v1 v2 h
    replace h : FX6_find_L9_B mc k (FX6_find_L9 mc k n) v1 v2 = some (r0, m0) := h
    unfold FX6_find_L9_B at h
    refine z_iload_n (pc := 9) hX 2 dX6_find_9 rfl rfl ?_
    refine z_aload_n (pc := 10) hX 0 dX6_find_10 rfl rfl ?_
    refine z_get (pc := 11) (c := 0) (j := 12) (v := .int (zI (mc 0 12))) hX rfl zfl_RX6_65 (Nat.le_of_ble_eq_true rfl) (zMod_e (ca := ca) (f := mc 0)) rfl dX6_find_11 ?_
    refine z_icmp_ge (pc := 14) (tgt := 55) hX dX6_find_14 (by decide) (fun hc7 => ?_) (fun hc7 => ?_)
    · replace h := (if_neg hc7).symm.trans h
      exact hk _ _ h
    · replace h := (if_pos hc7).symm.trans h
      refine z_aload_n (pc := 17) hX 0 dX6_find_17 rfl rfl ?_
      refine z_get (pc := 18) (c := 0) (j := 14) (v := .ref (ad 11)) hX rfl zfl_RX6_41 (Nat.le_of_ble_eq_true rfl) (zMod_e (ca := ca) (f := mc 0)) rfl dX6_find_18 ?_
      refine z_iload_n (pc := 21) hX 2 dX6_find_21 rfl rfl ?_
      obtain ⟨x2, hx2, hi2, h⟩ := zrd_s h
      refine z_iald (pc := 22) (c := 11) hX zMi11 hi2 hx2 dX6_find_22 ?_
      refine z_aload_n (pc := 23) hX 0 dX6_find_23 rfl rfl ?_
      refine z_get (pc := 24) (c := 0) (j := 6) (v := .int (zI (mc 0 6))) hX rfl zfl_RX6_168 (Nat.le_of_ble_eq_true rfl) (zMod_e (ca := ca) (f := mc 0)) rfl dX6_find_24 ?_
      refine z_icmp_ne (pc := 27) (tgt := 47) hX dX6_find_27 (by decide) (fun hc6 => ?_) (fun hc6 => ?_)
      · replace h := (if_neg hc6).symm.trans h
        refine z_iload_n (pc := 47) hX 1 dX6_find_47 rfl rfl ?_
        refine z_istore_n (pc := 48) (lv' := [(1, .int (zI v1)), (0, .ref (ad 0)), (2, .int (zI v2))]) hX dX6_find_48 rfl (by decide) rfl ?_
        refine z_iinc (pc := 49) (lv' := [(2, .int (zI (v2 + 1))), (1, .int (zI v1)), (0, .ref (ad 0))]) hX 2 dX6_find_49 rfl (by decide) rfl ?_
        refine z_goto (pc := 52) (tgt := 9) hX dX6_find_52 (by decide) ?_
        refine z_sub [2, 1, 0] rfl ?_
        exact ih _ _ h
      · replace h := (if_pos hc6).symm.trans h
        refine z_aload_n (pc := 30) hX 0 dX6_find_30 rfl rfl ?_
        refine z_aload_n (pc := 31) hX 0 dX6_find_31 rfl rfl ?_
        refine z_get (pc := 32) (c := 0) (j := 13) (v := .ref (ad 10)) hX rfl zfl_RX6_38 (Nat.le_of_ble_eq_true rfl) (zMod_e (ca := ca) (f := mc 0)) rfl dX6_find_32 ?_
        refine z_iload_n (pc := 35) hX 2 dX6_find_35 rfl rfl ?_
        obtain ⟨x3, hx3, hi3, h⟩ := zrd_s h
        refine z_iald (pc := 36) (c := 10) hX zMi10 hi3 hx3 dX6_find_36 ?_
        obtain ⟨r4, hr4, h⟩ := zcl_s h
        refine z_callVr (pc := 37) (c := 0) hX [.int (zI x3)] [] (wX6_isTaped (ca := ca) hG  hr4) rfl zmv_RX6_171 (Nat.le_of_ble_eq_true rfl) (zMod_e (ca := ca) (f := mc 0)) rfl rfl ⟨rfl, rfl⟩ ⟨by decide, by decide⟩ (Nat.le_of_ble_eq_true rfl) dX6_find_37 ?_
        refine z_if_eq (pc := 40) (tgt := 47) hX dX6_find_40 (by decide) (fun hc5 => ?_) (fun hc5 => ?_)
        · replace h := (if_pos hc5).symm.trans h
          refine z_iload_n (pc := 47) hX 1 dX6_find_47 rfl rfl ?_
          refine z_istore_n (pc := 48) (lv' := [(1, .int (zI v1)), (0, .ref (ad 0)), (2, .int (zI v2))]) hX dX6_find_48 rfl (by decide) rfl ?_
          refine z_iinc (pc := 49) (lv' := [(2, .int (zI (v2 + 1))), (1, .int (zI v1)), (0, .ref (ad 0))]) hX 2 dX6_find_49 rfl (by decide) rfl ?_
          refine z_goto (pc := 52) (tgt := 9) hX dX6_find_52 (by decide) ?_
          refine z_sub [2, 1, 0] rfl ?_
          exact ih _ _ h
        · replace h := (if_neg hc5).symm.trans h
          refine z_iload_n (pc := 43) hX 2 dX6_find_43 rfl rfl ?_
          refine z_goto (pc := 44) (tgt := 48) hX dX6_find_44 (by decide) ?_
          refine z_istore_n (pc := 48) (lv' := [(1, .int (zI v2)), (0, .ref (ad 0)), (2, .int (zI v2))]) hX dX6_find_48 rfl (by decide) rfl ?_
          refine z_iinc (pc := 49) (lv' := [(2, .int (zI (v2 + 1))), (1, .int (zI v2)), (0, .ref (ad 0))]) hX 2 dX6_find_49 rfl (by decide) rfl ?_
          refine z_goto (pc := 52) (tgt := 9) hX dX6_find_52 (by decide) ?_
          refine z_sub [2, 1, 0] rfl ?_
          exact ih _ _ h
set_option maxRecDepth 20000 in
set_option maxHeartbeats 4000000 in
theorem wX6_find {l : Launch} {D : va_G} {ca : Nat → ClassId} {ad : Nat → Nat} (hG : zGok (zGM D ca ad))  {r0 : Int} {m0 : zM} {m : zM} (h : FX6_find m = some (r0, m0)) : zCt l (zGM D ca ad) yX6_find cX6_find 3 (some .int) rmX6_find [.ref (ad 0)] m (some (.int (zI r0))) m0 := by
  unfold FX6_find at h
  refine z_of (plainFor_of_name (by decide +kernel)) hG (Nat.le_of_ble_eq_true rfl) (fun X hX => ?_)
  show zV X 3 m 0 [(0, .ref (ad 0))] []
  refine z_aload_n (pc := 0) hX 0 dX6_find_0 rfl rfl ?_
  obtain ⟨m1, hr1, h⟩ := zcl_s h
  refine z_callVv (pc := 1) (v := .null) (c := 0) hX [] [] (wX6_lay (ca := ca) hG  hr1) rfl zmv_RX6_111 (Nat.le_of_ble_eq_true rfl) (zMod_e (ca := ca) (f := m 0)) rfl rfl ⟨rfl, rfl⟩ ⟨by decide, by decide⟩ (Nat.le_of_ble_eq_true rfl) dX6_find_1 ?_
  refine z_bipush (pc := 4) hX dX6_find_4 (by decide +kernel) ?_
  refine z_istore_n (pc := 6) (lv' := [(1, .int (zI (-4))), (0, .ref (ad 0))]) hX dX6_find_6 rfl (by decide) rfl ?_
  refine z_iconst (pc := 7) hX dX6_find_7 ?_
  refine z_istore_n (pc := 8) (lv' := [(2, .int (zI 0)), (1, .int (zI (-4))), (0, .ref (ad 0))]) hX dX6_find_8 rfl (by decide) rfl ?_
  refine z_sub [2, 1, 0] rfl ?_
  refine wX6_find_L9 hG  hX (fun y9_1 y9_2 h => ?_) _ _ _ h
  refine z_iload_n (pc := 55) hX 1 dX6_find_55 rfl rfl ?_
  exact z_iret (pc := 56) hX rfl rfl (Prod.mk.inj (Option.some.inj h)).1 (Prod.mk.inj (Option.some.inj h)).2 dX6_find_56
def rmX6_nodeOf : Room := { frames := 1, cells := 0, slots := 0, locals := 25 }
set_option maxRecDepth 20000 in
set_option maxHeartbeats 4000000 in
theorem wX6_nodeOf_L2 {X : zXT} {l : Launch} {D : va_G} {ca : Nat → ClassId} {ad : Nat → Nat} (hG : zGok (zGM D ca ad)) {a1 : Int} {a2 : Int}  {r0 : Int} {m : zM}  (hX : zC X l rmX6_nodeOf (zGM D ca ad) (some (.int (zI r0))) m cX6_nodeOf 4 RX6 (some .int)) {k : Int → Option (Int)} (hk : ∀ (v3 : Int), k v3 = some r0 → zV X 4 m 33 [(0, .ref (ad 0)), (1, .int (zI a1)), (2, .int (zI a2)), (3, .int (zI v3))] []) : ∀ (n : Nat) (v3 : Int), FX6_nodeOf_L2 a1 a2 m k n v3 = some r0 → zV X 4 m 2 [(0, .ref (ad 0)), (1, .int (zI a1)), (2, .int (zI a2)), (3, .int (zI v3))] [] := by
  intro n
  induction n with
  | zero => intro v3 h; cases h
  | succ n ih =>
    intro v3 h
    replace h : FX6_nodeOf_L2_B a1 a2 m k (FX6_nodeOf_L2 a1 a2 m k n) v3 = some r0 := h
    unfold FX6_nodeOf_L2_B at h
    refine z_aload_n (pc := 2) hX 0 dX6_nodeOf_2 rfl rfl ?_
    refine z_get (pc := 3) (c := 0) (j := 14) (v := .ref (ad 11)) hX rfl zfl_RX6_41 (Nat.le_of_ble_eq_true rfl) (zMod_e (ca := ca) (f := m 0)) rfl dX6_nodeOf_3 ?_
    refine z_iload_n (pc := 6) hX 3 dX6_nodeOf_6 rfl rfl ?_
    obtain ⟨x1, hx1, hi1, h⟩ := zrd_s h
    refine z_iald (pc := 7) (c := 11) hX zMi11 hi1 hx1 dX6_nodeOf_7 ?_
    refine z_iload_n (pc := 8) hX 2 dX6_nodeOf_8 rfl rfl ?_
    refine z_icmp_ne (pc := 9) (tgt := 27) hX dX6_nodeOf_9 (by decide) (fun hc5 => ?_) (fun hc5 => ?_)
    · replace h := (if_neg hc5).symm.trans h
      refine z_iinc (pc := 27) (lv' := [(3, .int (zI (v3 + 1))), (0, .ref (ad 0)), (1, .int (zI a1)), (2, .int (zI a2))]) hX 3 dX6_nodeOf_27 rfl (by decide) rfl ?_
      refine z_goto (pc := 30) (tgt := 2) hX dX6_nodeOf_30 (by decide) ?_
      refine z_sub [1, 2, 3, 0] rfl ?_
      exact ih _ h
    · replace h := (if_pos hc5).symm.trans h
      refine z_aload_n (pc := 12) hX 0 dX6_nodeOf_12 rfl rfl ?_
      refine z_aload_n (pc := 13) hX 0 dX6_nodeOf_13 rfl rfl ?_
      refine z_get (pc := 14) (c := 0) (j := 13) (v := .ref (ad 10)) hX rfl zfl_RX6_38 (Nat.le_of_ble_eq_true rfl) (zMod_e (ca := ca) (f := m 0)) rfl dX6_nodeOf_14 ?_
      refine z_iload_n (pc := 17) hX 3 dX6_nodeOf_17 rfl rfl ?_
      obtain ⟨x2, hx2, hi2, h⟩ := zrd_s h
      refine z_iald (pc := 18) (c := 10) hX zMi10 hi2 hx2 dX6_nodeOf_18 ?_
      refine z_iload_n (pc := 19) hX 1 dX6_nodeOf_19 rfl rfl ?_
      refine z_iload_n (pc := 20) hX 2 dX6_nodeOf_20 rfl rfl ?_
      obtain ⟨r3, hr3, h⟩ := zcl_s h
      refine z_callVr (pc := 21) (c := 0) hX [.int (zI x2), .int (zI a1), .int (zI a2)] [] (wX6_isSame (ca := ca) hG  hr3) rfl zmv_RX6_61 (Nat.le_of_ble_eq_true rfl) (zMod_e (ca := ca) (f := m 0)) rfl rfl ⟨rfl, rfl⟩ ⟨by decide, by decide⟩ (Nat.le_of_ble_eq_true rfl) dX6_nodeOf_21 ?_
      refine z_if_ne (pc := 24) (tgt := 33) hX dX6_nodeOf_24 (by decide) (fun hc4 => ?_) (fun hc4 => ?_)
      · replace h := (if_neg hc4).symm.trans h
        exact hk _ h
      · replace h := (if_pos hc4).symm.trans h
        refine z_iinc (pc := 27) (lv' := [(3, .int (zI (v3 + 1))), (0, .ref (ad 0)), (1, .int (zI a1)), (2, .int (zI a2))]) hX 3 dX6_nodeOf_27 rfl (by decide) rfl ?_
        refine z_goto (pc := 30) (tgt := 2) hX dX6_nodeOf_30 (by decide) ?_
        refine z_sub [1, 2, 3, 0] rfl ?_
        exact ih _ h
set_option maxRecDepth 20000 in
set_option maxHeartbeats 4000000 in
theorem wX6_nodeOf {l : Launch} {D : va_G} {ca : Nat → ClassId} {ad : Nat → Nat} (hG : zGok (zGM D ca ad)) {a1 : Int} {a2 : Int} {r0 : Int} {m : zM} (h : FX6_nodeOf a1 a2 m = some r0) : zCt l (zGM D ca ad) yX6_nodeOf cX6_nodeOf 4 (some .int) rmX6_nodeOf [.ref (ad 0), .int (zI a1), .int (zI a2)] m (some (.int (zI r0))) m := by
  unfold FX6_nodeOf at h
  refine z_of (plainFor_of_name (by decide +kernel)) hG (Nat.le_of_ble_eq_true rfl) (fun X hX => ?_)
  show zV X 4 m 0 [(0, .ref (ad 0)), (1, .int (zI a1)), (2, .int (zI a2))] []
  refine z_iconst (pc := 0) hX dX6_nodeOf_0 ?_
  refine z_istore_n (pc := 1) (lv' := [(3, .int (zI 0)), (0, .ref (ad 0)), (1, .int (zI a1)), (2, .int (zI a2))]) hX dX6_nodeOf_1 rfl (by decide) rfl ?_
  refine z_sub [1, 2, 3, 0] rfl ?_
  refine wX6_nodeOf_L2 hG  hX (fun y2_3 h => ?_) _ _ h
  refine z_iload_n (pc := 33) hX 3 dX6_nodeOf_33 rfl rfl ?_
  exact z_iret (pc := 34) hX rfl rfl (Option.some.inj h) rfl dX6_nodeOf_34
def rmX6_link : Room := { frames := 2, cells := 0, slots := 0, locals := 48 }
set_option maxRecDepth 20000 in
set_option maxHeartbeats 4000000 in
theorem wX6_link {l : Launch} {D : va_G} {ca : Nat → ClassId} {ad : Nat → Nat} (hG : zGok (zGM D ca ad)) {a1 : Int} {r0 : Int} {m : zM} (h : FX6_link a1 m = some r0) : zCt l (zGM D ca ad) yX6_link cX6_link 4 (some .int) rmX6_link [.ref (ad 0), .int (zI a1)] m (some (.int (zI r0))) m := by
  unfold FX6_link at h
  refine z_of (plainFor_of_name (by decide +kernel)) hG (Nat.le_of_ble_eq_true rfl) (fun X hX => ?_)
  show zV X 4 m 0 [(0, .ref (ad 0)), (1, .int (zI a1))] []
  refine z_aload_n (pc := 0) hX 0 dX6_link_0 rfl rfl ?_
  refine z_get (pc := 1) (c := 0) (j := 13) (v := .ref (ad 10)) hX rfl zfl_RX6_38 (Nat.le_of_ble_eq_true rfl) (zMod_e (ca := ca) (f := m 0)) rfl dX6_link_1 ?_
  refine z_iload_n (pc := 4) hX 1 dX6_link_4 rfl rfl ?_
  obtain ⟨x1, hx1, hi1, h⟩ := zrd_s h
  refine z_iald (pc := 5) (c := 10) hX zMi10 hi1 hx1 dX6_link_5 ?_
  refine z_aload_n (pc := 6) hX 0 dX6_link_6 rfl rfl ?_
  refine z_get (pc := 7) (c := 0) (j := 14) (v := .ref (ad 11)) hX rfl zfl_RX6_41 (Nat.le_of_ble_eq_true rfl) (zMod_e (ca := ca) (f := m 0)) rfl dX6_link_7 ?_
  refine z_iload_n (pc := 10) hX 1 dX6_link_10 rfl rfl ?_
  obtain ⟨x2, hx2, hi2, h⟩ := zrd_s h
  refine z_iald (pc := 11) (c := 11) hX zMi11 hi2 hx2 dX6_link_11 ?_
  refine z_iadd (pc := 12) hX dX6_link_12 ?_
  refine z_iconst (pc := 13) hX dX6_link_13 ?_
  refine z_isub (pc := 14) hX dX6_link_14 ?_
  refine z_istore_n (pc := 15) (lv' := [(2, .int (zI ((x1 + x2) - 1))), (0, .ref (ad 0)), (1, .int (zI a1))]) hX dX6_link_15 rfl (by decide) rfl ?_
  refine z_aload_n (pc := 16) hX 1 dX6_link_16 rfl rfl ?_
  refine z_iload_n (pc := 17) hX 0 dX6_link_17 rfl rfl ?_
  refine z_aload_n (pc := 18) hX 1 dX6_link_18 rfl rfl ?_
  refine z_get (pc := 19) (c := 0) (j := 14) (v := .ref (ad 11)) hX rfl zfl_RX6_41 (Nat.le_of_ble_eq_true rfl) (zMod_e (ca := ca) (f := m 0)) rfl dX6_link_19 ?_
  refine z_iload_n (pc := 22) hX 2 dX6_link_22 rfl rfl ?_
  obtain ⟨x3, hx3, hi3, h⟩ := zrd_s h
  refine z_iald (pc := 23) (c := 11) hX zMi11 hi3 hx3 dX6_link_23 ?_
  obtain ⟨r4, hr4, h⟩ := zcl_s h
  refine z_callVr (pc := 24) (c := 0) hX [.int (zI ((x1 + x2) - 1)), .int (zI x3)] [] (wX6_endsBelow (ca := ca) hG  hr4) rfl zmv_RX6_57 (Nat.le_of_ble_eq_true rfl) (zMod_e (ca := ca) (f := m 0)) rfl rfl ⟨rfl, rfl⟩ ⟨by decide, by decide⟩ (Nat.le_of_ble_eq_true rfl) dX6_link_24 ?_
  refine z_istore_n (pc := 27) (lv' := [(3, .int (zI r4)), (2, .int (zI ((x1 + x2) - 1))), (0, .ref (ad 0)), (1, .int (zI a1))]) hX dX6_link_27 rfl (by decide) rfl ?_
  refine z_iload_n (pc := 28) hX 0 dX6_link_28 rfl rfl ?_
  refine z_if_ne (pc := 29) (tgt := 37) hX dX6_link_29 (by decide) (fun hc6 => ?_) (fun hc6 => ?_)
  · replace h := (if_neg hc6).symm.trans h
    refine z_aload_n (pc := 37) hX 2 dX6_link_37 rfl rfl ?_
    refine z_iload_n (pc := 38) hX 1 dX6_link_38 rfl rfl ?_
    refine z_iconst (pc := 39) hX dX6_link_39 ?_
    refine z_iadd (pc := 40) hX dX6_link_40 ?_
    refine z_iload_n (pc := 41) hX 0 dX6_link_41 rfl rfl ?_
    refine z_isub (pc := 42) hX dX6_link_42 ?_
    refine z_iload_n (pc := 43) hX 0 dX6_link_43 rfl rfl ?_
    obtain ⟨r5, hr5, h⟩ := zcl_s h
    refine z_callVr (pc := 44) (c := 0) hX [.int (zI ((((x1 + x2) - 1) + 1) - r4)), .int (zI r4)] [] (wX6_nodeOf (ca := ca) hG  hr5) rfl zmv_RX6_76 (Nat.le_of_ble_eq_true rfl) (zMod_e (ca := ca) (f := m 0)) rfl rfl ⟨rfl, rfl⟩ ⟨by decide, by decide⟩ (Nat.le_of_ble_eq_true rfl) dX6_link_44 ?_
    exact z_iret (pc := 47) hX rfl rfl (Option.some.inj h) rfl dX6_link_47
  · replace h := (if_pos hc6).symm.trans h
    refine z_bipush (pc := 32) hX dX6_link_32 (by decide +kernel) ?_
    refine z_goto (pc := 34) (tgt := 47) hX dX6_link_34 (by decide) ?_
    exact z_iret (pc := 47) hX rfl rfl (Option.some.inj h) rfl dX6_link_47
def rmX6_less : Room := { frames := 3, cells := 0, slots := 0, locals := 71 }
set_option maxRecDepth 20000 in
set_option maxHeartbeats 4000000 in
theorem wX6_less {l : Launch} {D : va_G} {ca : Nat → ClassId} {ad : Nat → Nat} (hG : zGok (zGM D ca ad)) {a1 : Int} {r0 : Int} {m : zM} (h : FX6_less a1 m = some r0) : zCt l (zGM D ca ad) yX6_less cX6_less 3 (some .int) rmX6_less [.ref (ad 0), .int (zI a1)] m (some (.int (zI r0))) m := by
  unfold FX6_less at h
  refine z_of (plainFor_of_name (by decide +kernel)) hG (Nat.le_of_ble_eq_true rfl) (fun X hX => ?_)
  show zV X 3 m 0 [(0, .ref (ad 0)), (1, .int (zI a1))] []
  refine z_aload_n (pc := 0) hX 0 dX6_less_0 rfl rfl ?_
  refine z_iload_n (pc := 1) hX 1 dX6_less_1 rfl rfl ?_
  obtain ⟨r1, hr1, h⟩ := zcl_s h
  refine z_callVr (pc := 2) (c := 0) hX [.int (zI a1)] [] (wX6_link (ca := ca) hG  hr1) rfl zmv_RX6_79 (Nat.le_of_ble_eq_true rfl) (zMod_e (ca := ca) (f := m 0)) rfl rfl ⟨rfl, rfl⟩ ⟨by decide, by decide⟩ (Nat.le_of_ble_eq_true rfl) dX6_less_2 ?_
  refine z_istore_n (pc := 5) (lv' := [(2, .int (zI r1)), (0, .ref (ad 0)), (1, .int (zI a1))]) hX dX6_less_5 rfl (by decide) rfl ?_
  refine z_iload_n (pc := 6) hX 0 dX6_less_6 rfl rfl ?_
  refine z_bipush (pc := 7) hX dX6_less_7 (by decide +kernel) ?_
  refine z_icmp_ne (pc := 9) (tgt := 21) hX dX6_less_9 (by decide) (fun hc5 => ?_) (fun hc5 => ?_)
  · replace h := (if_neg hc5).symm.trans h
    refine z_aload_n (pc := 21) hX 1 dX6_less_21 rfl rfl ?_
    refine z_get (pc := 22) (c := 0) (j := 14) (v := .ref (ad 11)) hX rfl zfl_RX6_41 (Nat.le_of_ble_eq_true rfl) (zMod_e (ca := ca) (f := m 0)) rfl dX6_less_22 ?_
    refine z_iload_n (pc := 25) hX 2 dX6_less_25 rfl rfl ?_
    obtain ⟨x2, hx2, hi2, h⟩ := zrd_s h
    refine z_iald (pc := 26) (c := 11) hX zMi11 hi2 hx2 dX6_less_26 ?_
    refine z_aload_n (pc := 27) hX 1 dX6_less_27 rfl rfl ?_
    refine z_get (pc := 28) (c := 0) (j := 14) (v := .ref (ad 11)) hX rfl zfl_RX6_41 (Nat.le_of_ble_eq_true rfl) (zMod_e (ca := ca) (f := m 0)) rfl dX6_less_28 ?_
    refine z_iload_n (pc := 31) hX 0 dX6_less_31 rfl rfl ?_
    obtain ⟨x3, hx3, hi3, h⟩ := zrd_s h
    refine z_iald (pc := 32) (c := 11) hX zMi11 hi3 hx3 dX6_less_32 ?_
    refine z_isub (pc := 33) hX dX6_less_33 ?_
    exact z_iret (pc := 34) hX rfl rfl (Option.some.inj h) rfl dX6_less_34
  · replace h := (if_pos hc5).symm.trans h
    refine z_aload_n (pc := 12) hX 1 dX6_less_12 rfl rfl ?_
    refine z_get (pc := 13) (c := 0) (j := 14) (v := .ref (ad 11)) hX rfl zfl_RX6_41 (Nat.le_of_ble_eq_true rfl) (zMod_e (ca := ca) (f := m 0)) rfl dX6_less_13 ?_
    refine z_iload_n (pc := 16) hX 2 dX6_less_16 rfl rfl ?_
    obtain ⟨x4, hx4, hi4, h⟩ := zrd_s h
    refine z_iald (pc := 17) (c := 11) hX zMi11 hi4 hx4 dX6_less_17 ?_
    refine z_goto (pc := 18) (tgt := 34) hX dX6_less_18 (by decide) ?_
    exact z_iret (pc := 34) hX rfl rfl (Option.some.inj h) rfl dX6_less_34
def rmX6_series : Room := { frames := 4, cells := 0, slots := 0, locals := 93 }
set_option maxRecDepth 20000 in
set_option maxHeartbeats 4000000 in
theorem wX6_series_L12 {X : zXT} {l : Launch} {D : va_G} {ca : Nat → ClassId} {ad : Nat → Nat} (hG : zGok (zGM D ca ad)) {a1 : Int}  {r0 : Int} {m : zM} {k2 : Int} (hX : zC X l rmX6_series (zGM D ca ad) (some (.int (zI r0))) m cX6_series 4 RX6 (some .int)) {k : Int → Option (Int)} (hk : ∀ (v3 : Int), k v3 = some r0 → zV X 4 m 36 [(0, .ref (ad 0)), (2, .int (zI k2)), (3, .int (zI v3))] []) : ∀ (n : Nat) (v3 : Int), FX6_series_L12 a1 k2 m k n v3 = some r0 → zV X 4 m 12 [(0, .ref (ad 0)), (2, .int (zI k2)), (3, .int (zI v3))] [] := by
  intro n
  induction n with
  | zero => intro v3 h; cases h
  | succ n ih =>
    intro v3 h
    replace h : FX6_series_L12_B a1 k2 m k (FX6_series_L12 a1 k2 m k n) v3 = some r0 := h
    unfold FX6_series_L12_B at h
    refine z_iload_n (pc := 12) hX 2 dX6_series_12 rfl rfl ?_
    refine z_bipush (pc := 13) hX dX6_series_13 (by decide +kernel) ?_
    refine z_icmp_eq (pc := 15) (tgt := 36) hX dX6_series_15 (by decide) (fun hc6 => ?_) (fun hc6 => ?_)
    · replace h := (if_pos hc6).symm.trans h
      exact hk _ h
    · replace h := (if_neg hc6).symm.trans h
      refine z_aload_n (pc := 18) hX 0 dX6_series_18 rfl rfl ?_
      refine z_iload_n (pc := 19) hX 2 dX6_series_19 rfl rfl ?_
      obtain ⟨r3, hr3, h⟩ := zcl_s h
      refine z_callVr (pc := 20) (c := 0) hX [.int (zI v3)] [] (wX6_less (ca := ca) hG  hr3) rfl zmv_RX6_83 (Nat.le_of_ble_eq_true rfl) (zMod_e (ca := ca) (f := m 0)) rfl rfl ⟨rfl, rfl⟩ ⟨by decide, by decide⟩ (Nat.le_of_ble_eq_true rfl) dX6_series_20 ?_
      refine z_iload_n (pc := 23) hX 1 dX6_series_23 rfl rfl ?_
      refine z_icmp_ne (pc := 24) (tgt := 36) hX dX6_series_24 (by decide) (fun hc5 => ?_) (fun hc5 => ?_)
      · replace h := (if_neg hc5).symm.trans h
        exact hk _ h
      · replace h := (if_pos hc5).symm.trans h
        refine z_aload_n (pc := 27) hX 0 dX6_series_27 rfl rfl ?_
        refine z_iload_n (pc := 28) hX 2 dX6_series_28 rfl rfl ?_
        obtain ⟨r4, hr4, h⟩ := zcl_s h
        refine z_callVr (pc := 29) (c := 0) hX [.int (zI v3)] [] (wX6_link (ca := ca) hG  hr4) rfl zmv_RX6_79 (Nat.le_of_ble_eq_true rfl) (zMod_e (ca := ca) (f := m 0)) rfl rfl ⟨rfl, rfl⟩ ⟨by decide, by decide⟩ (Nat.le_of_ble_eq_true rfl) dX6_series_29 ?_
        refine z_istore_n (pc := 32) (lv' := [(3, .int (zI r4)), (0, .ref (ad 0)), (2, .int (zI k2))]) hX dX6_series_32 rfl (by decide) rfl ?_
        refine z_goto (pc := 33) (tgt := 12) hX dX6_series_33 (by decide) ?_
        refine z_sub [1, 2, 0] rfl ?_
        exact ih _ h
set_option maxRecDepth 20000 in
set_option maxHeartbeats 4000000 in
theorem wX6_series {l : Launch} {D : va_G} {ca : Nat → ClassId} {ad : Nat → Nat} (hG : zGok (zGM D ca ad)) {a1 : Int} {r0 : Int} {m : zM} (h : FX6_series a1 m = some r0) : zCt l (zGM D ca ad) yX6_series cX6_series 4 (some .int) rmX6_series [.ref (ad 0), .int (zI a1)] m (some (.int (zI r0))) m := by
  unfold FX6_series at h
  refine z_of (plainFor_of_name (by decide +kernel)) hG (Nat.le_of_ble_eq_true rfl) (fun X hX => ?_)
  show zV X 4 m 0 [(0, .ref (ad 0)), (1, .int (zI a1))] []
  refine z_aload_n (pc := 0) hX 0 dX6_series_0 rfl rfl ?_
  refine z_iload_n (pc := 1) hX 1 dX6_series_1 rfl rfl ?_
  obtain ⟨r1, hr1, h⟩ := zcl_s h
  refine z_callVr (pc := 2) (c := 0) hX [.int (zI a1)] [] (wX6_less (ca := ca) hG  hr1) rfl zmv_RX6_83 (Nat.le_of_ble_eq_true rfl) (zMod_e (ca := ca) (f := m 0)) rfl rfl ⟨rfl, rfl⟩ ⟨by decide, by decide⟩ (Nat.le_of_ble_eq_true rfl) dX6_series_2 ?_
  refine z_istore_n (pc := 5) (lv' := [(2, .int (zI r1)), (0, .ref (ad 0)), (1, .int (zI a1))]) hX dX6_series_5 rfl (by decide) rfl ?_
  refine z_aload_n (pc := 6) hX 1 dX6_series_6 rfl rfl ?_
  refine z_iload_n (pc := 7) hX 2 dX6_series_7 rfl rfl ?_
  obtain ⟨r2, hr2, h⟩ := zcl_s h
  refine z_callVr (pc := 8) (c := 0) hX [.int (zI a1)] [] (wX6_link (ca := ca) hG  hr2) rfl zmv_RX6_79 (Nat.le_of_ble_eq_true rfl) (zMod_e (ca := ca) (f := m 0)) rfl rfl ⟨rfl, rfl⟩ ⟨by decide, by decide⟩ (Nat.le_of_ble_eq_true rfl) dX6_series_8 ?_
  refine z_istore_n (pc := 11) (lv' := [(3, .int (zI r2)), (2, .int (zI r1)), (0, .ref (ad 0)), (1, .int (zI a1))]) hX dX6_series_11 rfl (by decide) rfl ?_
  refine z_sub [2, 1, 0] rfl ?_
  refine wX6_series_L12 hG  hX (fun y12_3 h => ?_) _ _ h
  refine z_iload_n (pc := 36) hX 2 dX6_series_36 rfl rfl ?_
  exact z_iret (pc := 37) hX rfl rfl (Option.some.inj h) rfl dX6_series_37
def rmX6_groups : Room := { frames := 5, cells := 0, slots := 0, locals := 116 }
set_option maxRecDepth 20000 in
set_option maxHeartbeats 4000000 in
theorem wX6_groups_L44 {X : zXT} {l : Launch} {D : va_G} {ca : Nat → ClassId} {ad : Nat → Nat} (hG : zGok (zGM D ca ad)) {a1 : Int}  {r0 : Int} {m0 : zM} {mc : zM}  (hX : zC X l rmX6_groups (zGM D ca ad) (some (.int (zI r0))) m0 cX6_groups 5 RX6 (some .int)) {k : Int → Int → Option (Int × zM)} (hk : ∀ (v3 : Int) (v4 : Int), k v3 v4 = some (r0, m0) → zV X 5 mc 62 [(0, .ref (ad 0)), (3, .int (zI v3)), (4, .int (zI v4))] []) : ∀ (n : Nat) (v3 : Int) (v4 : Int), FX6_groups_L44 a1 mc k n v3 v4 = some (r0, m0) → zV X 5 mc 44 [(0, .ref (ad 0)), (3, .int (zI v3)), (4, .int (zI v4))] [] := by
  intro n
  induction n with
  | zero => intro v3 v4 h; cases h
  | succ n ih =>
    intro v3 v4 h
    replace h : FX6_groups_L44_B a1 mc k (FX6_groups_L44 a1 mc k n) v3 v4 = some (r0, m0) := h
    unfold FX6_groups_L44_B at h
    refine z_iload_n (pc := 44) hX 1 dX6_groups_44 rfl rfl ?_
    refine z_bipush (pc := 45) hX dX6_groups_45 (by decide +kernel) ?_
    refine z_icmp_eq (pc := 47) (tgt := 62) hX dX6_groups_47 (by decide) (fun hc8 => ?_) (fun hc8 => ?_)
    · replace h := (if_pos hc8).symm.trans h
      exact hk _ _ h
    · replace h := (if_neg hc8).symm.trans h
      refine z_iinc (pc := 50) (lv' := [(4, .int (zI (v4 + 1))), (0, .ref (ad 0)), (3, .int (zI v3))]) hX 2 dX6_groups_50 rfl (by decide) rfl ?_
      refine z_aload_n (pc := 53) hX 1 dX6_groups_53 rfl rfl ?_
      refine z_iload_n (pc := 54) hX 2 dX6_groups_54 rfl rfl ?_
      obtain ⟨r7, hr7, h⟩ := zcl_s h
      refine z_callVr (pc := 55) (c := 0) hX [.int (zI v3)] [] (wX6_series (ca := ca) hG  hr7) rfl zmv_RX6_120 (Nat.le_of_ble_eq_true rfl) (zMod_e (ca := ca) (f := mc 0)) rfl rfl ⟨rfl, rfl⟩ ⟨by decide, by decide⟩ (Nat.le_of_ble_eq_true rfl) dX6_groups_55 ?_
      refine z_istore_n (pc := 58) (lv' := [(3, .int (zI r7)), (4, .int (zI (v4 + 1))), (0, .ref (ad 0))]) hX dX6_groups_58 rfl (by decide) rfl ?_
      refine z_goto (pc := 59) (tgt := 44) hX dX6_groups_59 (by decide) ?_
      refine z_sub [2, 0, 1] rfl ?_
      exact ih _ _ h
set_option maxRecDepth 20000 in
set_option maxHeartbeats 4000000 in
theorem wX6_groups {l : Launch} {D : va_G} {ca : Nat → ClassId} {ad : Nat → Nat} (hG : zGok (zGM D ca ad)) {a1 : Int} {r0 : Int} {m0 : zM} {m : zM} (h : FX6_groups a1 m = some (r0, m0)) : zCt l (zGM D ca ad) yX6_groups cX6_groups 5 (some .int) rmX6_groups [.ref (ad 0), .int (zI a1)] m (some (.int (zI r0))) m0 := by
  unfold FX6_groups at h
  refine z_of (plainFor_of_name (by decide +kernel)) hG (Nat.le_of_ble_eq_true rfl) (fun X hX => ?_)
  show zV X 5 m 0 [(0, .ref (ad 0)), (1, .int (zI a1))] []
  refine z_iload_n (pc := 0) hX 1 dX6_groups_0 rfl rfl ?_
  obtain ⟨g1, h⟩ := zgd_s h
  refine z_i2l (pc := 1) hX g1 dX6_groups_1 ?_
  refine z_lconst (pc := 2) (a := 0) hX dX6_groups_2 (by decide +kernel) ?_
  refine z_aload_n (pc := 3) hX 0 dX6_groups_3 rfl rfl ?_
  refine z_get (pc := 4) (c := 0) (j := 0) (v := .int (zI (m 0 0))) hX rfl zfl_RX6_69 (Nat.le_of_ble_eq_true rfl) (zMod_e (ca := ca) (f := m 0)) rfl dX6_groups_4 ?_
  refine z_iconst (pc := 7) hX dX6_groups_7 ?_
  refine z_isub (pc := 8) hX dX6_groups_8 ?_
  obtain ⟨g2, h⟩ := zgd_s h
  refine z_i2l (pc := 9) hX g2 dX6_groups_9 ?_
  obtain ⟨r3, hr3, h⟩ := zcl_s h
  refine z_callSr (pc := 10) hX [.long (zJ a1), .long (zJ 0), .long (zJ ((m 0 0) - 1))] [] (wX6_within (ca := ca) hG  hr3) zms_RX6_90 rfl rfl ⟨rfl, rfl⟩ ⟨by decide, by decide⟩ (Nat.le_of_ble_eq_true rfl) dX6_groups_10 ?_
  refine z_if_ne (pc := 13) (tgt := 18) hX dX6_groups_13 (by decide) (fun hc9 => ?_) (fun hc9 => ?_)
  · replace h := (if_neg hc9).symm.trans h
    refine z_aload_n (pc := 18) hX 0 dX6_groups_18 rfl rfl ?_
    obtain ⟨m4, hr4, h⟩ := zcl_s h
    refine z_callVv (pc := 19) (v := .null) (c := 0) hX [] [] (wX6_lay (ca := ca) hG  hr4) rfl zmv_RX6_111 (Nat.le_of_ble_eq_true rfl) (zMod_e (ca := ca) (f := m 0)) rfl rfl ⟨rfl, rfl⟩ ⟨by decide, by decide⟩ (Nat.le_of_ble_eq_true rfl) dX6_groups_19 ?_
    refine z_aload_n (pc := 22) hX 0 dX6_groups_22 rfl rfl ?_
    refine z_iload_n (pc := 23) hX 1 dX6_groups_23 rfl rfl ?_
    refine z_bipush (pc := 24) hX dX6_groups_24 (by decide +kernel) ?_
    obtain ⟨r5, hr5, h⟩ := zcl_s h
    refine z_callVr (pc := 26) (c := 0) hX [.int (zI a1), .int (zI 49)] [] (wX6_endsBelow (ca := ca) hG  hr5) rfl zmv_RX6_57 (Nat.le_of_ble_eq_true rfl) (zMod_e (ca := ca) (f := m4 0)) rfl rfl ⟨rfl, rfl⟩ ⟨by decide, by decide⟩ (Nat.le_of_ble_eq_true rfl) dX6_groups_26 ?_
    refine z_istore_n (pc := 29) (lv' := [(2, .int (zI r5)), (0, .ref (ad 0)), (1, .int (zI a1))]) hX dX6_groups_29 rfl (by decide) rfl ?_
    refine z_aload_n (pc := 30) hX 1 dX6_groups_30 rfl rfl ?_
    refine z_iload_n (pc := 31) hX 2 dX6_groups_31 rfl rfl ?_
    refine z_iconst (pc := 32) hX dX6_groups_32 ?_
    refine z_iadd (pc := 33) hX dX6_groups_33 ?_
    refine z_iload_n (pc := 34) hX 0 dX6_groups_34 rfl rfl ?_
    refine z_isub (pc := 35) hX dX6_groups_35 ?_
    refine z_iload_n (pc := 36) hX 0 dX6_groups_36 rfl rfl ?_
    obtain ⟨r6, hr6, h⟩ := zcl_s h
    refine z_callVr (pc := 37) (c := 0) hX [.int (zI ((a1 + 1) - r5)), .int (zI r5)] [] (wX6_nodeOf (ca := ca) hG  hr6) rfl zmv_RX6_76 (Nat.le_of_ble_eq_true rfl) (zMod_e (ca := ca) (f := m4 0)) rfl rfl ⟨rfl, rfl⟩ ⟨by decide, by decide⟩ (Nat.le_of_ble_eq_true rfl) dX6_groups_37 ?_
    refine z_istore_n (pc := 40) (lv' := [(3, .int (zI r6)), (2, .int (zI r5)), (0, .ref (ad 0)), (1, .int (zI a1))]) hX dX6_groups_40 rfl (by decide) rfl ?_
    refine z_iconst (pc := 41) hX dX6_groups_41 ?_
    refine z_istore (pc := 42) (lv' := [(4, .int (zI 0)), (3, .int (zI r6)), (2, .int (zI r5)), (0, .ref (ad 0)), (1, .int (zI a1))]) hX dX6_groups_42 (by decide) rfl ?_
    refine z_sub [3, 1, 0] rfl ?_
    refine wX6_groups_L44 hG  hX (fun y44_3 y44_4 h => ?_) _ _ _ h
    refine z_iload (pc := 62) hX 2 dX6_groups_62 rfl ?_
    exact z_iret (pc := 64) hX rfl rfl (Prod.mk.inj (Option.some.inj h)).1 (Prod.mk.inj (Option.some.inj h)).2 dX6_groups_64
  · replace h := (if_pos hc9).symm.trans h
    refine z_iconst (pc := 16) hX dX6_groups_16 ?_
    exact z_iret (pc := 17) hX rfl rfl (Prod.mk.inj (Option.some.inj h)).1 (Prod.mk.inj (Option.some.inj h)).2 dX6_groups_17
def rmX6_power : Room := { frames := 0, cells := 0, slots := 0, locals := 0 }
set_option maxRecDepth 20000 in
set_option maxHeartbeats 4000000 in
theorem wX6_power_L4 {X : zXT} {l : Launch} {D : va_G} {ca : Nat → ClassId} {ad : Nat → Nat} (hG : zGok (zGM D ca ad)) {a0 : Int}  {r0 : Int} {m : zM}  (hX : zC X l rmX6_power (zGM D ca ad) (some (.int (zI r0))) m cX6_power 3 RX6 (some .int)) {k : Int → Int → Option (Int)} (hk : ∀ (v1 : Int) (v2 : Int), k v1 v2 = some r0 → zV X 3 m 20 [(0, .int (zI a0)), (1, .int (zI v1)), (2, .int (zI v2))] []) : ∀ (n : Nat) (v1 : Int) (v2 : Int), FX6_power_L4 a0 k n v1 v2 = some r0 → zV X 3 m 4 [(0, .int (zI a0)), (1, .int (zI v1)), (2, .int (zI v2))] [] := by
  intro n
  induction n with
  | zero => intro v1 v2 h; cases h
  | succ n ih =>
    intro v1 v2 h
    replace h : FX6_power_L4_B a0 k (FX6_power_L4 a0 k n) v1 v2 = some r0 := h
    unfold FX6_power_L4_B at h
    refine z_iload_n (pc := 4) hX 2 dX6_power_4 rfl rfl ?_
    refine z_iload_n (pc := 5) hX 0 dX6_power_5 rfl rfl ?_
    refine z_icmp_ge (pc := 6) (tgt := 20) hX dX6_power_6 (by decide) (fun hc1 => ?_) (fun hc1 => ?_)
    · replace h := (if_neg hc1).symm.trans h
      exact hk _ _ h
    · replace h := (if_pos hc1).symm.trans h
      refine z_iload_n (pc := 9) hX 1 dX6_power_9 rfl rfl ?_
      refine z_bipush (pc := 10) hX dX6_power_10 (by decide +kernel) ?_
      refine z_imul (pc := 12) hX dX6_power_12 ?_
      refine z_istore_n (pc := 13) (lv' := [(1, .int (zI (v1 * 6))), (0, .int (zI a0)), (2, .int (zI v2))]) hX dX6_power_13 rfl (by decide) rfl ?_
      refine z_iinc (pc := 14) (lv' := [(2, .int (zI (v2 + 1))), (1, .int (zI (v1 * 6))), (0, .int (zI a0))]) hX 2 dX6_power_14 rfl (by decide) rfl ?_
      refine z_goto (pc := 17) (tgt := 4) hX dX6_power_17 (by decide) ?_
      refine z_sub [2, 1, 0] rfl ?_
      exact ih _ _ h
set_option maxRecDepth 20000 in
set_option maxHeartbeats 4000000 in
theorem wX6_power {l : Launch} {D : va_G} {ca : Nat → ClassId} {ad : Nat → Nat} (hG : zGok (zGM D ca ad)) {a0 : Int} {r0 : Int} {m : zM} (h : FX6_power a0 = some r0) : zCt l (zGM D ca ad) yX6_power cX6_power 3 (some .int) rmX6_power [.int (zI a0)] m (some (.int (zI r0))) m := by
  unfold FX6_power at h
  refine z_of (plainFor_of_name (by decide +kernel)) hG (Nat.le_of_ble_eq_true rfl) (fun X hX => ?_)
  show zV X 3 m 0 [(0, .int (zI a0))] []
  refine z_iconst (pc := 0) hX dX6_power_0 ?_
  refine z_istore_n (pc := 1) (lv' := [(1, .int (zI 1)), (0, .int (zI a0))]) hX dX6_power_1 rfl (by decide) rfl ?_
  refine z_iconst (pc := 2) hX dX6_power_2 ?_
  refine z_istore_n (pc := 3) (lv' := [(2, .int (zI 0)), (1, .int (zI 1)), (0, .int (zI a0))]) hX dX6_power_3 rfl (by decide) rfl ?_
  refine z_sub [2, 1, 0] rfl ?_
  refine wX6_power_L4 hG  hX (fun y4_1 y4_2 h => ?_) _ _ _ h
  refine z_iload_n (pc := 20) hX 1 dX6_power_20 rfl rfl ?_
  exact z_iret (pc := 21) hX rfl rfl (Option.some.inj h) rfl dX6_power_21
