def rmX5_find : Room := { frames := 2, cells := 0, slots := 0, locals := 49 }
set_option maxRecDepth 20000 in
set_option maxHeartbeats 4000000 in
theorem wX5_find {l : Launch} {D : va_G} {ca : Nat → ClassId} {ad : Nat → Nat} (hG : zGok (zGC D ca ad))  {r0 : Int} {m : zM} (h : FX5_find m = some r0) : zCt l (zGC D ca ad) yX5_find cX5_find 2 (some .int) rmX5_find [.ref (ad 0)] m (some (.int (zI r0))) m := by
  unfold FX5_find at h
  refine z_of (plainFor_of_name (by decide +kernel)) hG (Nat.le_of_ble_eq_true rfl) (fun X hX => ?_)
  show zV X 2 m 0 [(0, .ref (ad 0))] []
  refine z_aload_n (pc := 0) hX 0 dX5_find_0 rfl rfl ?_
  refine z_get (pc := 1) (c := 0) (j := 0) (v := .ref (ad 1)) hX rfl zfl_RX5_12 (Nat.le_of_ble_eq_true rfl) (zMain_e (ca := ca) (f := m 0)) rfl dX5_find_1 ?_
  refine z_aload_n (pc := 4) hX 0 dX5_find_4 rfl rfl ?_
  refine z_get (pc := 5) (c := 0) (j := 5) (v := .ref (ad 33)) hX rfl zfl_RX5_42 (Nat.le_of_ble_eq_true rfl) (zMain_e (ca := ca) (f := m 0)) rfl dX5_find_5 ?_
  refine z_get (pc := 8) (c := 33) (j := 0) (v := .ref (ad 34)) hX rfl zfl_RX5_138 (zRow_lt (Or.inr (Or.inr rfl))) (zRow_e (ca := ca) (f := m 33) (Or.inr (Or.inr rfl))) rfl dX5_find_8 ?_
  refine z_iconst (pc := 11) hX dX5_find_11 ?_
  refine z_aload_n (pc := 12) hX 0 dX5_find_12 rfl rfl ?_
  refine z_get (pc := 13) (c := 0) (j := 5) (v := .ref (ad 33)) hX rfl zfl_RX5_42 (Nat.le_of_ble_eq_true rfl) (zMain_e (ca := ca) (f := m 0)) rfl dX5_find_13 ?_
  refine z_get (pc := 16) (c := 33) (j := 1) (v := .int (zI (m 33 1))) hX rfl zfl_RX5_137 (zRow_lt (Or.inr (Or.inr rfl))) (zRow_e (ca := ca) (f := m 33) (Or.inr (Or.inr rfl))) rfl dX5_find_16 ?_
  obtain ⟨r1, hr1, h⟩ := zcl_s h
  refine z_callVr (pc := 19) (c := 1) hX [.ref (ad 34), .int (zI 0), .int (zI (m 33 1))] [] (wX1_nodeOf (ca := ca) hG (Or.inl rfl) (zRow_a1 (Or.inr (Or.inr rfl))) hr1) rfl zmv_RX5_151 (zCat_lt (Or.inl rfl)) (zCat_e (ca := ca) (f := m 1) (Or.inl rfl)) rfl rfl ⟨rfl, rfl⟩ ⟨by decide, by decide⟩ (Nat.le_of_ble_eq_true rfl) dX5_find_19 ?_
  refine z_istore_n (pc := 22) (lv' := [(1, .int (zI r1)), (0, .ref (ad 0))]) hX dX5_find_22 rfl (by decide) rfl ?_
  refine z_iload_n (pc := 23) hX 0 dX5_find_23 rfl rfl ?_
  refine z_iconst (pc := 24) hX dX5_find_24 ?_
  refine z_icmp_ne (pc := 25) (tgt := 33) hX dX5_find_25 (by decide) (fun hc2 => ?_) (fun hc2 => ?_)
  · replace h := (if_neg hc2).symm.trans h
    refine z_iload_n (pc := 33) hX 0 dX5_find_33 rfl rfl ?_
    exact z_iret (pc := 34) hX rfl rfl (Option.some.inj h) rfl dX5_find_34
  · replace h := (if_pos hc2).symm.trans h
    refine z_bipush (pc := 28) hX dX5_find_28 (by decide +kernel) ?_
    refine z_goto (pc := 30) (tgt := 34) hX dX5_find_30 (by decide) ?_
    exact z_iret (pc := 34) hX rfl rfl (Option.some.inj h) rfl dX5_find_34
def rmX5_greatestDivisor : Room := { frames := 0, cells := 0, slots := 0, locals := 0 }
set_option maxRecDepth 20000 in
set_option maxHeartbeats 4000000 in
theorem wX5_greatestDivisor_L7 {X : zXT} {l : Launch} {D : va_G} {ca : Nat → ClassId} {ad : Nat → Nat} (hG : zGok (zGC D ca ad)) {a0 : Int} {a1 : Int}  {r0 : Int} {m : zM}  (hX : zC X l rmX5_greatestDivisor (zGC D ca ad) (some (.int (zI r0))) m cX5_greatestDivisor 6 RX5 (some .int)) {k : Int → Int → Int → Option (Int)} (hk : ∀ (v2 : Int) (v3 : Int) (v4 : Int), k v2 v3 v4 = some r0 → zV X 6 m 34 [(2, .int (zI v2)), (3, .int (zI v3)), (4, .int (zI v4))] []) : ∀ (n : Nat) (v2 : Int) (v3 : Int) (v4 : Int), FX5_greatestDivisor_L7 a0 a1 k n v2 v3 v4 = some r0 → zV X 6 m 7 [(2, .int (zI v2)), (3, .int (zI v3)), (4, .int (zI v4))] [] := by
  intro n
  induction n with
  | zero => intro v2 v3 v4 h; cases h
  | succ n ih =>
    intro v2 v3 v4 h
    replace h : FX5_greatestDivisor_L7_B a0 a1 k (FX5_greatestDivisor_L7 a0 a1 k n) v2 v3 v4 = some r0 := h
    unfold FX5_greatestDivisor_L7_B at h
    refine z_iload (pc := 7) hX 2 dX5_greatestDivisor_7 rfl ?_
    refine z_bipush (pc := 9) hX dX5_greatestDivisor_9 (by decide +kernel) ?_
    refine z_icmp_ge (pc := 11) (tgt := 34) hX dX5_greatestDivisor_11 (by decide) (fun hc3 => ?_) (fun hc3 => ?_)
    · replace h := (if_neg hc3).symm.trans h
      exact hk _ _ _ h
    · replace h := (if_pos hc3).symm.trans h
      refine z_iload_n (pc := 14) hX 1 dX5_greatestDivisor_14 rfl rfl ?_
      refine z_if_eq (pc := 15) (tgt := 34) hX dX5_greatestDivisor_15 (by decide) (fun hc2 => ?_) (fun hc2 => ?_)
      · replace h := (if_pos hc2).symm.trans h
        exact hk _ _ _ h
      · replace h := (if_neg hc2).symm.trans h
        refine z_iload_n (pc := 18) hX 0 dX5_greatestDivisor_18 rfl rfl ?_
        refine z_iload_n (pc := 19) hX 1 dX5_greatestDivisor_19 rfl rfl ?_
        obtain ⟨g1, h⟩ := zgd_s h
        refine z_irem (pc := 20) hX g1 dX5_greatestDivisor_20 ?_
        refine z_istore (pc := 21) (lv' := [(5, .int (zI (v2 % v3))), (2, .int (zI v2)), (3, .int (zI v3)), (4, .int (zI v4))]) hX dX5_greatestDivisor_21 (by decide) rfl ?_
        refine z_iload_n (pc := 23) hX 2 dX5_greatestDivisor_23 rfl rfl ?_
        refine z_istore_n (pc := 24) (lv' := [(2, .int (zI v3)), (5, .int (zI (v2 % v3))), (3, .int (zI v3)), (4, .int (zI v4))]) hX dX5_greatestDivisor_24 rfl (by decide) rfl ?_
        refine z_iload (pc := 25) hX 1 dX5_greatestDivisor_25 rfl ?_
        refine z_istore_n (pc := 27) (lv' := [(3, .int (zI (v2 % v3))), (2, .int (zI v3)), (5, .int (zI (v2 % v3))), (4, .int (zI v4))]) hX dX5_greatestDivisor_27 rfl (by decide) rfl ?_
        refine z_iinc (pc := 28) (lv' := [(4, .int (zI (v4 + 1))), (3, .int (zI (v2 % v3))), (2, .int (zI v3)), (5, .int (zI (v2 % v3)))]) hX 3 dX5_greatestDivisor_28 rfl (by decide) rfl ?_
        refine z_goto (pc := 31) (tgt := 7) hX dX5_greatestDivisor_31 (by decide) ?_
        refine z_sub [2, 1, 0] rfl ?_
        exact ih _ _ _ h
set_option maxRecDepth 20000 in
set_option maxHeartbeats 4000000 in
theorem wX5_greatestDivisor {l : Launch} {D : va_G} {ca : Nat → ClassId} {ad : Nat → Nat} (hG : zGok (zGC D ca ad)) {a0 : Int} {a1 : Int} {r0 : Int} {m : zM} (h : FX5_greatestDivisor a0 a1 = some r0) : zCt l (zGC D ca ad) yX5_greatestDivisor cX5_greatestDivisor 6 (some .int) rmX5_greatestDivisor [.int (zI a0), .int (zI a1)] m (some (.int (zI r0))) m := by
  unfold FX5_greatestDivisor at h
  refine z_of (plainFor_of_name (by decide +kernel)) hG (Nat.le_of_ble_eq_true rfl) (fun X hX => ?_)
  show zV X 6 m 0 [(0, .int (zI a0)), (1, .int (zI a1))] []
  refine z_iload_n (pc := 0) hX 0 dX5_greatestDivisor_0 rfl rfl ?_
  refine z_istore_n (pc := 1) (lv' := [(2, .int (zI a0)), (0, .int (zI a0)), (1, .int (zI a1))]) hX dX5_greatestDivisor_1 rfl (by decide) rfl ?_
  refine z_iload_n (pc := 2) hX 2 dX5_greatestDivisor_2 rfl rfl ?_
  refine z_istore_n (pc := 3) (lv' := [(3, .int (zI a1)), (2, .int (zI a0)), (0, .int (zI a0)), (1, .int (zI a1))]) hX dX5_greatestDivisor_3 rfl (by decide) rfl ?_
  refine z_iconst (pc := 4) hX dX5_greatestDivisor_4 ?_
  refine z_istore (pc := 5) (lv' := [(4, .int (zI 0)), (3, .int (zI a1)), (2, .int (zI a0)), (0, .int (zI a0)), (1, .int (zI a1))]) hX dX5_greatestDivisor_5 (by decide) rfl ?_
  refine z_sub [2, 1, 0] rfl ?_
  refine wX5_greatestDivisor_L7 hG  hX (fun y7_2 y7_3 y7_4 h => ?_) _ _ _ _ h
  refine z_iload_n (pc := 34) hX 0 dX5_greatestDivisor_34 rfl rfl ?_
  exact z_iret (pc := 35) hX rfl rfl (Option.some.inj h) rfl dX5_greatestDivisor_35
def rmX5_groups : Room := { frames := 2, cells := 0, slots := 0, locals := 43 }
set_option maxRecDepth 20000 in
set_option maxHeartbeats 4000000 in
theorem wX5_groups_L33 {X : zXT} {l : Launch} {D : va_G} {ca : Nat → ClassId} {ad : Nat → Nat} (hG : zGok (zGC D ca ad)) {a1 : Int}  {r0 : Int} {m : zM}  (hX : zC X l rmX5_groups (zGC D ca ad) (some (.int (zI r0))) m cX5_groups 5 RX5 (some .int)) {k : Int → Int → Int → Option (Int)} (hk : ∀ (v2 : Int) (v3 : Int) (v4 : Int), k v2 v3 v4 = some r0 → zV X 5 m 65 [(0, .ref (ad 0)), (2, .int (zI v2)), (3, .int (zI v3)), (4, .int (zI v4))] []) : ∀ (n : Nat) (v2 : Int) (v3 : Int) (v4 : Int), FX5_groups_L33 a1 m k n v2 v3 v4 = some r0 → zV X 5 m 33 [(0, .ref (ad 0)), (2, .int (zI v2)), (3, .int (zI v3)), (4, .int (zI v4))] [] := by
  intro n
  induction n with
  | zero => intro v2 v3 v4 h; cases h
  | succ n ih =>
    intro v2 v3 v4 h
    replace h : FX5_groups_L33_B a1 m k (FX5_groups_L33 a1 m k n) v2 v3 v4 = some r0 := h
    unfold FX5_groups_L33_B at h
    refine z_iload (pc := 33) hX 3 dX5_groups_33 rfl ?_
    refine z_bipush (pc := 35) hX dX5_groups_35 (by decide +kernel) ?_
    refine z_icmp_ge (pc := 37) (tgt := 65) hX dX5_groups_37 (by decide) (fun hc6 => ?_) (fun hc6 => ?_)
    · replace h := (if_neg hc6).symm.trans h
      exact hk _ _ _ h
    · replace h := (if_pos hc6).symm.trans h
      refine z_iload_n (pc := 40) hX 2 dX5_groups_40 rfl rfl ?_
      refine z_bipush (pc := 41) hX dX5_groups_41 (by decide +kernel) ?_
      refine z_icmp_ge (pc := 43) (tgt := 65) hX dX5_groups_43 (by decide) (fun hc5 => ?_) (fun hc5 => ?_)
      · replace h := (if_neg hc5).symm.trans h
        exact hk _ _ _ h
      · replace h := (if_pos hc5).symm.trans h
        refine z_iinc (pc := 46) (lv' := [(2, .int (zI (v2 + 1))), (0, .ref (ad 0)), (3, .int (zI v3)), (4, .int (zI v4))]) hX 1 dX5_groups_46 rfl (by decide) rfl ?_
        refine z_aload_n (pc := 49) hX 1 dX5_groups_49 rfl rfl ?_
        refine z_get (pc := 50) (c := 0) (j := 0) (v := .ref (ad 1)) hX rfl zfl_RX5_12 (Nat.le_of_ble_eq_true rfl) (zMain_e (ca := ca) (f := m 0)) rfl dX5_groups_50 ?_
        refine z_get (pc := 53) (c := 1) (j := 4) (v := .ref (ad 6)) hX rfl zfl_RX5_123 (zCat_lt (Or.inl rfl)) (zCat_e (ca := ca) (f := m 1) (Or.inl rfl)) rfl dX5_groups_53 ?_
        refine z_iload_n (pc := 56) hX 2 dX5_groups_56 rfl rfl ?_
        obtain ⟨x4, hx4, hi4, h⟩ := zrd_s h
        refine z_iald (pc := 57) (c := 6) hX (zCat_a5 (Or.inl rfl)) hi4 hx4 dX5_groups_57 ?_
        refine z_istore_n (pc := 58) (lv' := [(3, .int (zI x4)), (2, .int (zI (v2 + 1))), (0, .ref (ad 0)), (4, .int (zI v4))]) hX dX5_groups_58 rfl (by decide) rfl ?_
        refine z_iinc (pc := 59) (lv' := [(4, .int (zI (v4 + 1))), (3, .int (zI x4)), (2, .int (zI (v2 + 1))), (0, .ref (ad 0))]) hX 3 dX5_groups_59 rfl (by decide) rfl ?_
        refine z_goto (pc := 62) (tgt := 33) hX dX5_groups_62 (by decide) ?_
        refine z_sub [3, 2, 1, 0] rfl ?_
        exact ih _ _ _ h
set_option maxRecDepth 20000 in
set_option maxHeartbeats 4000000 in
theorem wX5_groups {l : Launch} {D : va_G} {ca : Nat → ClassId} {ad : Nat → Nat} (hG : zGok (zGC D ca ad)) {a1 : Int} {r0 : Int} {m : zM} (h : FX5_groups a1 m = some r0) : zCt l (zGC D ca ad) yX5_groups cX5_groups 5 (some .int) rmX5_groups [.ref (ad 0), .int (zI a1)] m (some (.int (zI r0))) m := by
  unfold FX5_groups at h
  refine z_of (plainFor_of_name (by decide +kernel)) hG (Nat.le_of_ble_eq_true rfl) (fun X hX => ?_)
  show zV X 5 m 0 [(0, .ref (ad 0)), (1, .int (zI a1))] []
  refine z_aload_n (pc := 0) hX 0 dX5_groups_0 rfl rfl ?_
  refine z_iload_n (pc := 1) hX 1 dX5_groups_1 rfl rfl ?_
  obtain ⟨r1, hr1, h⟩ := zcl_s h
  refine z_callVr (pc := 2) (c := 0) hX [.int (zI a1)] [] (wX5_isPlace (ca := ca) hG  hr1) rfl zmv_RX5_83 (Nat.le_of_ble_eq_true rfl) (zMain_e (ca := ca) (f := m 0)) rfl rfl ⟨rfl, rfl⟩ ⟨by decide, by decide⟩ (Nat.le_of_ble_eq_true rfl) dX5_groups_2 ?_
  refine z_if_ne (pc := 5) (tgt := 10) hX dX5_groups_5 (by decide) (fun hc7 => ?_) (fun hc7 => ?_)
  · replace h := (if_neg hc7).symm.trans h
    refine z_iconst (pc := 10) hX dX5_groups_10 ?_
    refine z_istore_n (pc := 11) (lv' := [(2, .int (zI 1)), (0, .ref (ad 0)), (1, .int (zI a1))]) hX dX5_groups_11 rfl (by decide) rfl ?_
    refine z_aload_n (pc := 12) hX 1 dX5_groups_12 rfl rfl ?_
    refine z_get (pc := 13) (c := 0) (j := 0) (v := .ref (ad 1)) hX rfl zfl_RX5_12 (Nat.le_of_ble_eq_true rfl) (zMain_e (ca := ca) (f := m 0)) rfl dX5_groups_13 ?_
    refine z_get (pc := 16) (c := 1) (j := 4) (v := .ref (ad 6)) hX rfl zfl_RX5_123 (zCat_lt (Or.inl rfl)) (zCat_e (ca := ca) (f := m 1) (Or.inl rfl)) rfl dX5_groups_16 ?_
    refine z_aload_n (pc := 19) hX 1 dX5_groups_19 rfl rfl ?_
    refine z_get (pc := 20) (c := 0) (j := 0) (v := .ref (ad 1)) hX rfl zfl_RX5_12 (Nat.le_of_ble_eq_true rfl) (zMain_e (ca := ca) (f := m 0)) rfl dX5_groups_20 ?_
    refine z_get (pc := 23) (c := 1) (j := 1) (v := .ref (ad 3)) hX rfl zfl_RX5_160 (zCat_lt (Or.inl rfl)) (zCat_e (ca := ca) (f := m 1) (Or.inl rfl)) rfl dX5_groups_23 ?_
    refine z_iload_n (pc := 26) hX 2 dX5_groups_26 rfl rfl ?_
    obtain ⟨x2, hx2, hi2, h⟩ := zrd_s h
    refine z_iald (pc := 27) (c := 3) hX (zCat_a2 (Or.inl rfl)) hi2 hx2 dX5_groups_27 ?_
    obtain ⟨x3, hx3, hi3, h⟩ := zrd_s h
    refine z_iald (pc := 28) (c := 6) hX (zCat_a5 (Or.inl rfl)) hi3 hx3 dX5_groups_28 ?_
    refine z_istore_n (pc := 29) (lv' := [(3, .int (zI x3)), (2, .int (zI 1)), (0, .ref (ad 0)), (1, .int (zI a1))]) hX dX5_groups_29 rfl (by decide) rfl ?_
    refine z_iconst (pc := 30) hX dX5_groups_30 ?_
    refine z_istore (pc := 31) (lv' := [(4, .int (zI 0)), (3, .int (zI x3)), (2, .int (zI 1)), (0, .ref (ad 0)), (1, .int (zI a1))]) hX dX5_groups_31 (by decide) rfl ?_
    refine z_sub [3, 2, 1, 0] rfl ?_
    refine wX5_groups_L33 hG  hX (fun y33_2 y33_3 y33_4 h => ?_) _ _ _ _ h
    refine z_iload_n (pc := 65) hX 1 dX5_groups_65 rfl rfl ?_
    exact z_iret (pc := 66) hX rfl rfl (Option.some.inj h) rfl dX5_groups_66
  · replace h := (if_pos hc7).symm.trans h
    refine z_iconst (pc := 8) hX dX5_groups_8 ?_
    exact z_iret (pc := 9) hX rfl rfl (Option.some.inj h) rfl dX5_groups_9
def rmX5_rowsOf : Room := { frames := 0, cells := 0, slots := 0, locals := 0 }
set_option maxRecDepth 20000 in
set_option maxHeartbeats 4000000 in
theorem wX5_rowsOf_L4 {X : zXT} {l : Launch} {D : va_G} {ca : Nat → ClassId} {ad : Nat → Nat} (hG : zGok (zGC D ca ad)) {a0 : Int}  {r0 : Int} {m : zM}  (hX : zC X l rmX5_rowsOf (zGC D ca ad) (some (.int (zI r0))) m cX5_rowsOf 3 RX5 (some .int)) {k : Int → Int → Option (Int)} (hk : ∀ (v1 : Int) (v2 : Int), k v1 v2 = some r0 → zV X 3 m 20 [(0, .int (zI a0)), (1, .int (zI v1)), (2, .int (zI v2))] []) : ∀ (n : Nat) (v1 : Int) (v2 : Int), FX5_rowsOf_L4 a0 k n v1 v2 = some r0 → zV X 3 m 4 [(0, .int (zI a0)), (1, .int (zI v1)), (2, .int (zI v2))] [] := by
  intro n
  induction n with
  | zero => intro v1 v2 h; cases h
  | succ n ih =>
    intro v1 v2 h
    replace h : FX5_rowsOf_L4_B a0 k (FX5_rowsOf_L4 a0 k n) v1 v2 = some r0 := h
    unfold FX5_rowsOf_L4_B at h
    refine z_iload_n (pc := 4) hX 2 dX5_rowsOf_4 rfl rfl ?_
    refine z_iload_n (pc := 5) hX 0 dX5_rowsOf_5 rfl rfl ?_
    refine z_icmp_ge (pc := 6) (tgt := 20) hX dX5_rowsOf_6 (by decide) (fun hc1 => ?_) (fun hc1 => ?_)
    · replace h := (if_neg hc1).symm.trans h
      exact hk _ _ h
    · replace h := (if_pos hc1).symm.trans h
      refine z_iload_n (pc := 9) hX 1 dX5_rowsOf_9 rfl rfl ?_
      refine z_bipush (pc := 10) hX dX5_rowsOf_10 (by decide +kernel) ?_
      refine z_imul (pc := 12) hX dX5_rowsOf_12 ?_
      refine z_istore_n (pc := 13) (lv' := [(1, .int (zI (v1 * 6))), (0, .int (zI a0)), (2, .int (zI v2))]) hX dX5_rowsOf_13 rfl (by decide) rfl ?_
      refine z_iinc (pc := 14) (lv' := [(2, .int (zI (v2 + 1))), (1, .int (zI (v1 * 6))), (0, .int (zI a0))]) hX 2 dX5_rowsOf_14 rfl (by decide) rfl ?_
      refine z_goto (pc := 17) (tgt := 4) hX dX5_rowsOf_17 (by decide) ?_
      refine z_sub [2, 1, 0] rfl ?_
      exact ih _ _ h
set_option maxRecDepth 20000 in
set_option maxHeartbeats 4000000 in
theorem wX5_rowsOf {l : Launch} {D : va_G} {ca : Nat → ClassId} {ad : Nat → Nat} (hG : zGok (zGC D ca ad)) {a0 : Int} {r0 : Int} {m : zM} (h : FX5_rowsOf a0 = some r0) : zCt l (zGC D ca ad) yX5_rowsOf cX5_rowsOf 3 (some .int) rmX5_rowsOf [.int (zI a0)] m (some (.int (zI r0))) m := by
  unfold FX5_rowsOf at h
  refine z_of (plainFor_of_name (by decide +kernel)) hG (Nat.le_of_ble_eq_true rfl) (fun X hX => ?_)
  show zV X 3 m 0 [(0, .int (zI a0))] []
  refine z_iconst (pc := 0) hX dX5_rowsOf_0 ?_
  refine z_istore_n (pc := 1) (lv' := [(1, .int (zI 1)), (0, .int (zI a0))]) hX dX5_rowsOf_1 rfl (by decide) rfl ?_
  refine z_iconst (pc := 2) hX dX5_rowsOf_2 ?_
  refine z_istore_n (pc := 3) (lv' := [(2, .int (zI 0)), (1, .int (zI 1)), (0, .int (zI a0))]) hX dX5_rowsOf_3 rfl (by decide) rfl ?_
  refine z_sub [2, 1, 0] rfl ?_
  refine wX5_rowsOf_L4 hG  hX (fun y4_1 y4_2 h => ?_) _ _ _ h
  refine z_iload_n (pc := 20) hX 1 dX5_rowsOf_20 rfl rfl ?_
  exact z_iret (pc := 21) hX rfl rfl (Option.some.inj h) rfl dX5_rowsOf_21
def rmX5_startRows : Room := { frames := 4, cells := 0, slots := 0, locals := 96 }
set_option maxRecDepth 20000 in
set_option maxHeartbeats 4000000 in
theorem wX5_startRows {l : Launch} {D : va_G} {ca : Nat → ClassId} {ad : Nat → Nat} (hG : zGok (zGC D ca ad)) {a1 : Int} {m0 : zM} {m : zM} (h : FX5_startRows a1 m = some m0) : zCt l (zGC D ca ad) yX5_startRows cX5_startRows 2 none rmX5_startRows [.ref (ad 0), .int (zI a1)] m none m0 := by
  unfold FX5_startRows at h
  refine z_of (plainFor_of_name (by decide +kernel)) hG (Nat.le_of_ble_eq_true rfl) (fun X hX => ?_)
  show zV X 2 m 0 [(0, .ref (ad 0)), (1, .int (zI a1))] []
  refine z_aload_n (pc := 0) hX 0 dX5_startRows_0 rfl rfl ?_
  refine z_get (pc := 1) (c := 0) (j := 1) (v := .ref (ad 11)) hX rfl zfl_RX5_16 (Nat.le_of_ble_eq_true rfl) (zMain_e (ca := ca) (f := m 0)) rfl dX5_startRows_1 ?_
  refine z_aload_n (pc := 4) hX 0 dX5_startRows_4 rfl rfl ?_
  refine z_get (pc := 5) (c := 0) (j := 0) (v := .ref (ad 1)) hX rfl zfl_RX5_12 (Nat.le_of_ble_eq_true rfl) (zMain_e (ca := ca) (f := m 0)) rfl dX5_startRows_5 ?_
  refine z_get (pc := 8) (c := 1) (j := 0) (v := .ref (ad 2)) hX rfl zfl_RX5_86 (zCat_lt (Or.inl rfl)) (zCat_e (ca := ca) (f := m 1) (Or.inl rfl)) rfl dX5_startRows_8 ?_
  refine z_iconst (pc := 11) hX dX5_startRows_11 ?_
  refine z_aload_n (pc := 12) hX 0 dX5_startRows_12 rfl rfl ?_
  refine z_get (pc := 13) (c := 0) (j := 0) (v := .ref (ad 1)) hX rfl zfl_RX5_12 (Nat.le_of_ble_eq_true rfl) (zMain_e (ca := ca) (f := m 0)) rfl dX5_startRows_13 ?_
  refine z_get (pc := 16) (c := 1) (j := 9) (v := .int (zI (m 1 9))) hX rfl zfl_RX5_64 (zCat_lt (Or.inl rfl)) (zCat_e (ca := ca) (f := m 1) (Or.inl rfl)) rfl dX5_startRows_16 ?_
  obtain ⟨m1, hr1, h⟩ := zcl_s h
  refine z_callVv (pc := 19) (v := .null) (c := 11) hX [.ref (ad 2), .int (zI 0), .int (zI (m 1 9))] [] (wX1_load (ca := ca) hG (Or.inr rfl) (zCat_a1 (Or.inl rfl)) hr1) rfl zmv_RX5_141 (zCat_lt (Or.inr rfl)) (zCat_e (ca := ca) (f := m 11) (Or.inr rfl)) rfl rfl ⟨rfl, rfl⟩ ⟨by decide, by decide⟩ (Nat.le_of_ble_eq_true rfl) dX5_startRows_19 ?_
  refine z_aload_n (pc := 22) hX 0 dX5_startRows_22 rfl rfl ?_
  refine z_get (pc := 23) (c := 0) (j := 1) (v := .ref (ad 11)) hX rfl zfl_RX5_16 (Nat.le_of_ble_eq_true rfl) (zMain_e (ca := ca) (f := m1 0)) rfl dX5_startRows_23 ?_
  refine z_iload_n (pc := 26) hX 1 dX5_startRows_26 rfl rfl ?_
  obtain ⟨m2, hr2, h⟩ := zcl_s h
  refine z_callVv (pc := 27) (v := .null) (c := 11) hX [.int (zI a1)] [] (wX1_lengthen (ca := ca) hG (Or.inr rfl) hr2) rfl zmv_RX5_272 (zCat_lt (Or.inr rfl)) (zCat_e (ca := ca) (f := m1 11) (Or.inr rfl)) rfl rfl ⟨rfl, rfl⟩ ⟨by decide, by decide⟩ (Nat.le_of_ble_eq_true rfl) dX5_startRows_27 ?_
  exact z_vret (pc := 30) hX rfl rfl (Option.some.inj h) dX5_startRows_30
def rmX5_stepRow : Room := { frames := 4, cells := 0, slots := 0, locals := 94 }
set_option maxRecDepth 20000 in
set_option maxHeartbeats 4000000 in
theorem wX5_stepRow_L4 {X : zXT} {l : Launch} {D : va_G} {ca : Nat → ClassId} {ad : Nat → Nat} (hG : zGok (zGC D ca ad)) {a1 : Int}  {m0 : zM}  (hX : zC X l rmX5_stepRow (zGC D ca ad) none m0 cX5_stepRow 4 RX5 none) {k : Int → Int → zM → Option (zM)} (hk : ∀ (v2 : Int) (v3 : Int) (m_ : zM), k v2 v3 m_ = some m0 → zV X 4 m_ 37 [(0, .ref (ad 0)), (1, .int (zI a1)), (2, .int (zI v2)), (3, .int (zI v3))] []) : ∀ (n : Nat) (v2 : Int) (v3 : Int) (m_ : zM), FX5_stepRow_L4 a1 k n v2 v3 m_ = some m0 → zV X 4 m_ 4 [(0, .ref (ad 0)), (1, .int (zI a1)), (2, .int (zI v2)), (3, .int (zI v3))] [] := by
  intro n
  induction n with
  | zero => intro v2 v3 m_ h; cases h
  | succ n ih =>
    intro v2 v3 m_ h
    replace h : FX5_stepRow_L4_B a1 k (FX5_stepRow_L4 a1 k n) v2 v3 m_ = some m0 := h
    unfold FX5_stepRow_L4_B at h
    refine z_iload_n (pc := 4) hX 3 dX5_stepRow_4 rfl rfl ?_
    refine z_iload_n (pc := 5) hX 1 dX5_stepRow_5 rfl rfl ?_
    refine z_icmp_ge (pc := 6) (tgt := 37) hX dX5_stepRow_6 (by decide) (fun hc4 => ?_) (fun hc4 => ?_)
    · replace h := (if_neg hc4).symm.trans h
      exact hk _ _ _ h
    · replace h := (if_pos hc4).symm.trans h
      refine z_aload_n (pc := 9) hX 0 dX5_stepRow_9 rfl rfl ?_
      refine z_get (pc := 10) (c := 0) (j := 1) (v := .ref (ad 11)) hX rfl zfl_RX5_16 (Nat.le_of_ble_eq_true rfl) (zMain_e (ca := ca) (f := m_ 0)) rfl dX5_stepRow_10 ?_
      obtain ⟨r1, hr1, h⟩ := zcl_s h
      refine z_callVr (pc := 13) (c := 11) hX [] [] (wX1_lastLetter (ca := ca) hG (Or.inr rfl) hr1) rfl zmv_RX5_76 (zCat_lt (Or.inr rfl)) (zCat_e (ca := ca) (f := m_ 11) (Or.inr rfl)) rfl rfl ⟨rfl, rfl⟩ ⟨by decide, by decide⟩ (Nat.le_of_ble_eq_true rfl) dX5_stepRow_13 ?_
      refine z_bipush (pc := 16) hX dX5_stepRow_16 (by decide +kernel) ?_
      refine z_icmp_ne (pc := 18) (tgt := 37) hX dX5_stepRow_18 (by decide) (fun hc3 => ?_) (fun hc3 => ?_)
      · replace h := (if_neg hc3).symm.trans h
        exact hk _ _ _ h
      · replace h := (if_pos hc3).symm.trans h
        refine z_aload_n (pc := 21) hX 0 dX5_stepRow_21 rfl rfl ?_
        refine z_get (pc := 22) (c := 0) (j := 1) (v := .ref (ad 11)) hX rfl zfl_RX5_16 (Nat.le_of_ble_eq_true rfl) (zMain_e (ca := ca) (f := m_ 0)) rfl dX5_stepRow_22 ?_
        obtain ⟨m2, hr2, h⟩ := zcl_s h
        refine z_callVv (pc := 25) (v := .null) (c := 11) hX [] [] (wX1_removeLast (ca := ca) hG (Or.inr rfl) hr2) rfl zmv_RX5_80 (zCat_lt (Or.inr rfl)) (zCat_e (ca := ca) (f := m_ 11) (Or.inr rfl)) rfl rfl ⟨rfl, rfl⟩ ⟨by decide, by decide⟩ (Nat.le_of_ble_eq_true rfl) dX5_stepRow_25 ?_
        refine z_iinc (pc := 28) (lv' := [(2, .int (zI (v2 + 1))), (0, .ref (ad 0)), (1, .int (zI a1)), (3, .int (zI v3))]) hX 2 dX5_stepRow_28 rfl (by decide) rfl ?_
        refine z_iinc (pc := 31) (lv' := [(3, .int (zI (v3 + 1))), (2, .int (zI (v2 + 1))), (0, .ref (ad 0)), (1, .int (zI a1))]) hX 3 dX5_stepRow_31 rfl (by decide) rfl ?_
        refine z_goto (pc := 34) (tgt := 4) hX dX5_stepRow_34 (by decide) ?_
        refine z_sub [2, 3, 1, 0] rfl ?_
        exact ih _ _ _ h
set_option maxRecDepth 20000 in
set_option maxHeartbeats 4000000 in
theorem wX5_stepRow {l : Launch} {D : va_G} {ca : Nat → ClassId} {ad : Nat → Nat} (hG : zGok (zGC D ca ad)) {a1 : Int} {m0 : zM} {m : zM} (h : FX5_stepRow a1 m = some m0) : zCt l (zGC D ca ad) yX5_stepRow cX5_stepRow 4 none rmX5_stepRow [.ref (ad 0), .int (zI a1)] m none m0 := by
  unfold FX5_stepRow at h
  refine z_of (plainFor_of_name (by decide +kernel)) hG (Nat.le_of_ble_eq_true rfl) (fun X hX => ?_)
  show zV X 4 m 0 [(0, .ref (ad 0)), (1, .int (zI a1))] []
  refine z_iconst (pc := 0) hX dX5_stepRow_0 ?_
  refine z_istore_n (pc := 1) (lv' := [(2, .int (zI 0)), (0, .ref (ad 0)), (1, .int (zI a1))]) hX dX5_stepRow_1 rfl (by decide) rfl ?_
  refine z_iconst (pc := 2) hX dX5_stepRow_2 ?_
  refine z_istore_n (pc := 3) (lv' := [(3, .int (zI 0)), (2, .int (zI 0)), (0, .ref (ad 0)), (1, .int (zI a1))]) hX dX5_stepRow_3 rfl (by decide) rfl ?_
  refine z_sub [2, 3, 1, 0] rfl ?_
  refine wX5_stepRow_L4 hG  hX (fun y4_2 y4_3 m4_ h => ?_) _ _ _ _ h
  refine z_iload_n (pc := 37) hX 2 dX5_stepRow_37 rfl rfl ?_
  refine z_iload_n (pc := 38) hX 1 dX5_stepRow_38 rfl rfl ?_
  obtain ⟨j68, hj68, h⟩ := zjn_s h (fun (j : zM → Option (zM)) => ∀ (mj68 : zM), j mj68 = some m0 → zV X 4 mj68 68 [(0, .ref (ad 0)), (2, .int (zI y4_2))] []) (fun mj68 h => by
      refine z_aload_n (pc := 68) hX 0 dX5_stepRow_68 rfl rfl ?_
      refine z_get (pc := 69) (c := 0) (j := 1) (v := .ref (ad 11)) hX rfl zfl_RX5_16 (Nat.le_of_ble_eq_true rfl) (zMain_e (ca := ca) (f := mj68 0)) rfl dX5_stepRow_69 ?_
      refine z_iload_n (pc := 72) hX 1 dX5_stepRow_72 rfl rfl ?_
      obtain ⟨m5, hr5, h⟩ := zcl_s h
      refine z_callVv (pc := 73) (v := .null) (c := 11) hX [.int (zI y4_2)] [] (wX1_lengthen (ca := ca) hG (Or.inr rfl) hr5) rfl zmv_RX5_272 (zCat_lt (Or.inr rfl)) (zCat_e (ca := ca) (f := mj68 11) (Or.inr rfl)) rfl rfl ⟨rfl, rfl⟩ ⟨by decide, by decide⟩ (Nat.le_of_ble_eq_true rfl) dX5_stepRow_73 ?_
      exact z_vret (pc := 76) hX rfl rfl (Option.some.inj h) dX5_stepRow_76
      )
  refine z_icmp_ge (pc := 39) (tgt := 68) hX dX5_stepRow_39 (by decide) (fun hc9 => ?_) (fun hc9 => ?_)
  · replace h := (if_neg hc9).symm.trans h
    refine z_sub [0, 2] rfl ?_
    exact hj68 _ h
  · replace h := (if_pos hc9).symm.trans h
    refine z_aload_n (pc := 42) hX 0 dX5_stepRow_42 rfl rfl ?_
    refine z_get (pc := 43) (c := 0) (j := 1) (v := .ref (ad 11)) hX rfl zfl_RX5_16 (Nat.le_of_ble_eq_true rfl) (zMain_e (ca := ca) (f := m4_ 0)) rfl dX5_stepRow_43 ?_
    obtain ⟨r6, hr6, h⟩ := zcl_s h
    refine z_callVr (pc := 46) (c := 11) hX [] [] (wX1_lastLetter (ca := ca) hG (Or.inr rfl) hr6) rfl zmv_RX5_76 (zCat_lt (Or.inr rfl)) (zCat_e (ca := ca) (f := m4_ 11) (Or.inr rfl)) rfl rfl ⟨rfl, rfl⟩ ⟨by decide, by decide⟩ (Nat.le_of_ble_eq_true rfl) dX5_stepRow_46 ?_
    refine z_iconst (pc := 49) hX dX5_stepRow_49 ?_
    refine z_iadd (pc := 50) hX dX5_stepRow_50 ?_
    refine z_istore_n (pc := 51) (lv' := [(3, .int (zI (r6 + 1))), (0, .ref (ad 0)), (1, .int (zI a1)), (2, .int (zI y4_2))]) hX dX5_stepRow_51 rfl (by decide) rfl ?_
    refine z_aload_n (pc := 52) hX 1 dX5_stepRow_52 rfl rfl ?_
    refine z_get (pc := 53) (c := 0) (j := 1) (v := .ref (ad 11)) hX rfl zfl_RX5_16 (Nat.le_of_ble_eq_true rfl) (zMain_e (ca := ca) (f := m4_ 0)) rfl dX5_stepRow_53 ?_
    obtain ⟨m7, hr7, h⟩ := zcl_s h
    refine z_callVv (pc := 56) (v := .null) (c := 11) hX [] [] (wX1_removeLast (ca := ca) hG (Or.inr rfl) hr7) rfl zmv_RX5_80 (zCat_lt (Or.inr rfl)) (zCat_e (ca := ca) (f := m4_ 11) (Or.inr rfl)) rfl rfl ⟨rfl, rfl⟩ ⟨by decide, by decide⟩ (Nat.le_of_ble_eq_true rfl) dX5_stepRow_56 ?_
    refine z_aload_n (pc := 59) hX 1 dX5_stepRow_59 rfl rfl ?_
    refine z_get (pc := 60) (c := 0) (j := 1) (v := .ref (ad 11)) hX rfl zfl_RX5_16 (Nat.le_of_ble_eq_true rfl) (zMain_e (ca := ca) (f := m7 0)) rfl dX5_stepRow_60 ?_
    refine z_iload_n (pc := 63) hX 0 dX5_stepRow_63 rfl rfl ?_
    obtain ⟨r8, m8, hr8, h⟩ := zcl2_s h
    refine z_callVr (pc := 64) (c := 11) hX [.int (zI (r6 + 1))] [] (wX1_add (ca := ca) hG (Or.inr rfl) hr8) rfl zmv_RX5_72 (zCat_lt (Or.inr rfl)) (zCat_e (ca := ca) (f := m7 11) (Or.inr rfl)) rfl rfl ⟨rfl, rfl⟩ ⟨by decide, by decide⟩ (Nat.le_of_ble_eq_true rfl) dX5_stepRow_64 ?_
    refine z_pop (pc := 67) hX dX5_stepRow_67 rfl ?_
    refine z_sub [1, 3] rfl ?_
    exact hj68 _ h
def rmX5_growMost : Room := { frames := 5, cells := 0, slots := 0, locals := 117 }
set_option maxRecDepth 20000 in
set_option maxHeartbeats 4000000 in
theorem wX5_growMost_L15 {X : zXT} {l : Launch} {D : va_G} {ca : Nat → ClassId} {ad : Nat → Nat} (hG : zGok (zGC D ca ad)) {a1 : Int}  {r0 : Int} {m0 : zM} {k3 : Int} (hX : zC X l rmX5_growMost (zGC D ca ad) (some (.int (zI r0))) m0 cX5_growMost 5 RX5 (some .int)) {k : Int → Int → zM → Option (Int × zM)} (hk : ∀ (v2 : Int) (v4 : Int) (m_ : zM), k v2 v4 m_ = some (r0, m0) → zV X 5 m_ 74 [(0, .ref (ad 0)), (1, .int (zI a1)), (2, .int (zI v2)), (3, .int (zI k3)), (4, .int (zI v4))] []) : ∀ (n : Nat) (v2 : Int) (v4 : Int) (m_ : zM), FX5_growMost_L15 a1 k3 k n v2 v4 m_ = some (r0, m0) → zV X 5 m_ 15 [(0, .ref (ad 0)), (1, .int (zI a1)), (2, .int (zI v2)), (3, .int (zI k3)), (4, .int (zI v4))] [] := by
  intro n
  induction n with
  | zero => intro v2 v4 m_ h; cases h
  | succ n ih =>
    intro v2 v4 m_ h
    replace h : FX5_growMost_L15_B a1 k3 k (FX5_growMost_L15 a1 k3 k n) v2 v4 m_ = some (r0, m0) := h
    unfold FX5_growMost_L15_B at h
    refine z_iload (pc := 15) hX 4 dX5_growMost_15 rfl ?_
    refine z_iload_n (pc := 17) hX 3 dX5_growMost_17 rfl rfl ?_
    refine z_icmp_ge (pc := 18) (tgt := 74) hX dX5_growMost_18 (by decide) (fun hc6 => ?_) (fun hc6 => ?_)
    · replace h := (if_neg hc6).symm.trans h
      exact hk _ _ _ h
    · replace h := (if_pos hc6).symm.trans h
      refine z_aload_n (pc := 21) hX 0 dX5_growMost_21 rfl rfl ?_
      refine z_get (pc := 22) (c := 0) (j := 1) (v := .ref (ad 11)) hX rfl zfl_RX5_16 (Nat.le_of_ble_eq_true rfl) (zMain_e (ca := ca) (f := m_ 0)) rfl dX5_growMost_22 ?_
      refine z_get (pc := 25) (c := 11) (j := 10) (v := .int (zI (m_ 11 10))) hX rfl zfl_RX5_148 (zCat_lt (Or.inr rfl)) (zCat_e (ca := ca) (f := m_ 11) (Or.inr rfl)) rfl dX5_growMost_25 ?_
      refine z_iload_n (pc := 28) hX 2 dX5_growMost_28 rfl rfl ?_
      obtain ⟨j63, hj63, h⟩ := zjn_s h (fun (j : Int → zM → Option (Int × zM)) => ∀ (u63_2 : Int) (mj63 : zM), j u63_2 mj63 = some (r0, m0) → zV X 5 mj63 63 [(0, .ref (ad 0)), (1, .int (zI a1)), (2, .int (zI u63_2)), (3, .int (zI k3)), (4, .int (zI v4))] []) (fun u63_2 mj63 h => by
          refine z_aload_n (pc := 63) hX 0 dX5_growMost_63 rfl rfl ?_
          refine z_iload_n (pc := 64) hX 1 dX5_growMost_64 rfl rfl ?_
          obtain ⟨m3, hr3, h⟩ := zcl_s h
          refine z_callVv (pc := 65) (v := .null) (c := 0) hX [.int (zI a1)] [] (wX5_stepRow (ca := ca) hG  hr3) rfl zmv_RX5_269 (Nat.le_of_ble_eq_true rfl) (zMain_e (ca := ca) (f := mj63 0)) rfl rfl ⟨rfl, rfl⟩ ⟨by decide, by decide⟩ (Nat.le_of_ble_eq_true rfl) dX5_growMost_65 ?_
          refine z_iinc (pc := 68) (lv' := [(4, .int (zI (v4 + 1))), (0, .ref (ad 0)), (1, .int (zI a1)), (2, .int (zI u63_2)), (3, .int (zI k3))]) hX 4 dX5_growMost_68 rfl (by decide) rfl ?_
          refine z_goto (pc := 71) (tgt := 15) hX dX5_growMost_71 (by decide) ?_
          refine z_sub [1, 2, 3, 4, 0] rfl ?_
          exact ih _ _ _ h
          )
      refine z_icmp_le (pc := 29) (tgt := 63) hX dX5_growMost_29 (by decide) (fun hc5 => ?_) (fun hc5 => ?_)
      · replace h := (if_neg hc5).symm.trans h
        exact hj63 _ _ h
      · replace h := (if_pos hc5).symm.trans h
        refine z_aload_n (pc := 32) hX 0 dX5_growMost_32 rfl rfl ?_
        refine z_get (pc := 33) (c := 0) (j := 1) (v := .ref (ad 11)) hX rfl zfl_RX5_16 (Nat.le_of_ble_eq_true rfl) (zMain_e (ca := ca) (f := m_ 0)) rfl dX5_growMost_33 ?_
        refine z_get (pc := 36) (c := 11) (j := 10) (v := .int (zI (m_ 11 10))) hX rfl zfl_RX5_148 (zCat_lt (Or.inr rfl)) (zCat_e (ca := ca) (f := m_ 11) (Or.inr rfl)) rfl dX5_growMost_36 ?_
        refine z_istore_n (pc := 39) (lv' := [(2, .int (zI (m_ 11 10))), (0, .ref (ad 0)), (1, .int (zI a1)), (3, .int (zI k3)), (4, .int (zI v4))]) hX dX5_growMost_39 rfl (by decide) rfl ?_
        refine z_aload_n (pc := 40) hX 1 dX5_growMost_40 rfl rfl ?_
        refine z_get (pc := 41) (c := 0) (j := 1) (v := .ref (ad 11)) hX rfl zfl_RX5_16 (Nat.le_of_ble_eq_true rfl) (zMain_e (ca := ca) (f := m_ 0)) rfl dX5_growMost_41 ?_
        refine z_get (pc := 44) (c := 11) (j := 0) (v := .ref (ad 12)) hX rfl zfl_RX5_86 (zCat_lt (Or.inr rfl)) (zCat_e (ca := ca) (f := m_ 11) (Or.inr rfl)) rfl dX5_growMost_44 ?_
        refine z_aload_n (pc := 47) hX 1 dX5_growMost_47 rfl rfl ?_
        refine z_get (pc := 48) (c := 0) (j := 0) (v := .ref (ad 1)) hX rfl zfl_RX5_12 (Nat.le_of_ble_eq_true rfl) (zMain_e (ca := ca) (f := m_ 0)) rfl dX5_growMost_48 ?_
        refine z_get (pc := 51) (c := 1) (j := 9) (v := .int (zI (m_ 1 9))) hX rfl zfl_RX5_64 (zCat_lt (Or.inl rfl)) (zCat_e (ca := ca) (f := m_ 1) (Or.inl rfl)) rfl dX5_growMost_51 ?_
        refine z_aload_n (pc := 54) hX 1 dX5_growMost_54 rfl rfl ?_
        refine z_get (pc := 55) (c := 0) (j := 7) (v := .ref (ad 44)) hX rfl zfl_RX5_53 (Nat.le_of_ble_eq_true rfl) (zMain_e (ca := ca) (f := m_ 0)) rfl dX5_growMost_55 ?_
        refine z_iconst (pc := 58) hX dX5_growMost_58 ?_
        refine z_iload_n (pc := 59) hX 2 dX5_growMost_59 rfl rfl ?_
        obtain ⟨m4, hm4, g4, h⟩ := zcpy_s h
        refine z_copyi (pc := 60) (c0 := 12) (c1 := 44) hX (zCat_a1 (Or.inr rfl)) zCi44 zmc_RX5_245 g4 hm4 ⟨by decide, Nat.le_of_ble_eq_true rfl⟩ dX5_growMost_60 ?_
        refine z_sub [1, 2, 0, 3, 4] rfl ?_
        exact hj63 _ _ h
set_option maxRecDepth 20000 in
set_option maxHeartbeats 4000000 in
theorem wX5_growMost {l : Launch} {D : va_G} {ca : Nat → ClassId} {ad : Nat → Nat} (hG : zGok (zGC D ca ad)) {a1 : Int} {r0 : Int} {m0 : zM} {m : zM} (h : FX5_growMost a1 m = some (r0, m0)) : zCt l (zGC D ca ad) yX5_growMost cX5_growMost 5 (some .int) rmX5_growMost [.ref (ad 0), .int (zI a1)] m (some (.int (zI r0))) m0 := by
  unfold FX5_growMost at h
  refine z_of (plainFor_of_name (by decide +kernel)) hG (Nat.le_of_ble_eq_true rfl) (fun X hX => ?_)
  show zV X 5 m 0 [(0, .ref (ad 0)), (1, .int (zI a1))] []
  refine z_iconst (pc := 0) hX dX5_growMost_0 ?_
  refine z_istore_n (pc := 1) (lv' := [(2, .int (zI (-1))), (0, .ref (ad 0)), (1, .int (zI a1))]) hX dX5_growMost_1 rfl (by decide) rfl ?_
  refine z_iload_n (pc := 2) hX 2 dX5_growMost_2 rfl rfl ?_
  obtain ⟨r1, hr1, h⟩ := zcl_s h
  refine z_callSr (pc := 3) hX [.int (zI a1)] [] (wX5_rowsOf (ca := ca) hG  hr1) zms_RX5_191 rfl rfl ⟨rfl, rfl⟩ ⟨by decide, by decide⟩ (Nat.le_of_ble_eq_true rfl) dX5_growMost_3 ?_
  refine z_istore_n (pc := 6) (lv' := [(3, .int (zI r1)), (2, .int (zI (-1))), (0, .ref (ad 0)), (1, .int (zI a1))]) hX dX5_growMost_6 rfl (by decide) rfl ?_
  refine z_aload_n (pc := 7) hX 2 dX5_growMost_7 rfl rfl ?_
  refine z_iload_n (pc := 8) hX 3 dX5_growMost_8 rfl rfl ?_
  obtain ⟨m2, hr2, h⟩ := zcl_s h
  refine z_callVv (pc := 9) (v := .null) (c := 0) hX [.int (zI a1)] [] (wX5_startRows (ca := ca) hG  hr2) rfl zmv_RX5_266 (Nat.le_of_ble_eq_true rfl) (zMain_e (ca := ca) (f := m 0)) rfl rfl ⟨rfl, rfl⟩ ⟨by decide, by decide⟩ (Nat.le_of_ble_eq_true rfl) dX5_growMost_9 ?_
  refine z_iconst (pc := 12) hX dX5_growMost_12 ?_
  refine z_istore (pc := 13) (lv' := [(4, .int (zI 0)), (3, .int (zI r1)), (2, .int (zI (-1))), (0, .ref (ad 0)), (1, .int (zI a1))]) hX dX5_growMost_13 (by decide) rfl ?_
  refine z_sub [3, 4, 2, 1, 0] rfl ?_
  refine wX5_growMost_L15 hG  hX (fun y15_2 y15_4 m15_ h => ?_) _ _ _ _ h
  refine z_iload_n (pc := 74) hX 2 dX5_growMost_74 rfl rfl ?_
  exact z_iret (pc := 75) hX rfl rfl (Prod.mk.inj (Option.some.inj h)).1 (Prod.mk.inj (Option.some.inj h)).2 dX5_growMost_75
def rmX5_grow : Room := { frames := 6, cells := 0, slots := 0, locals := 141 }
set_option maxRecDepth 20000 in
set_option maxHeartbeats 4000000 in
theorem wX5_grow {l : Launch} {D : va_G} {ca : Nat → ClassId} {ad : Nat → Nat} (hG : zGok (zGC D ca ad)) {a1 : Int} {a2 : Int} {r0 : Int} {m0 : zM} {m : zM} (h : FX5_grow a1 a2 m = some (r0, m0)) : zCt l (zGC D ca ad) yX5_grow cX5_grow 4 (some .int) rmX5_grow [.ref (ad 0), .int (zI a1), .int (zI a2)] m (some (.int (zI r0))) m0 := by
  unfold FX5_grow at h
  refine z_of (plainFor_of_name (by decide +kernel)) hG (Nat.le_of_ble_eq_true rfl) (fun X hX => ?_)
  show zV X 4 m 0 [(0, .ref (ad 0)), (1, .int (zI a1)), (2, .int (zI a2))] []
  refine z_iload_n (pc := 0) hX 1 dX5_grow_0 rfl rfl ?_
  refine z_iconst (pc := 1) hX dX5_grow_1 ?_
  refine z_iconst (pc := 2) hX dX5_grow_2 ?_
  obtain ⟨r1, hr1, h⟩ := zcl_s h
  refine z_callSr (pc := 3) hX [.int (zI a1), .int (zI 0), .int (zI 3)] [] (wX5_within (ca := ca) hG  hr1) zms_RX5_129 rfl rfl ⟨rfl, rfl⟩ ⟨by decide, by decide⟩ (Nat.le_of_ble_eq_true rfl) dX5_grow_3 ?_
  refine z_if_eq (pc := 6) (tgt := 14) hX dX5_grow_6 (by decide) (fun hc8 => ?_) (fun hc8 => ?_)
  · replace h := (if_pos hc8).symm.trans h
    refine z_iconst (pc := 14) hX dX5_grow_14 ?_
    exact z_iret (pc := 15) hX rfl rfl (Prod.mk.inj (Option.some.inj h)).1 (Prod.mk.inj (Option.some.inj h)).2 dX5_grow_15
  · replace h := (if_neg hc8).symm.trans h
    refine z_iload_n (pc := 9) hX 2 dX5_grow_9 rfl rfl ?_
    refine z_iconst (pc := 10) hX dX5_grow_10 ?_
    refine z_icmp_ge (pc := 11) (tgt := 16) hX dX5_grow_11 (by decide) (fun hc7 => ?_) (fun hc7 => ?_)
    · replace h := (if_neg hc7).symm.trans h
      refine z_aload_n (pc := 16) hX 0 dX5_grow_16 rfl rfl ?_
      refine z_get (pc := 17) (c := 0) (j := 0) (v := .ref (ad 1)) hX rfl zfl_RX5_12 (Nat.le_of_ble_eq_true rfl) (zMain_e (ca := ca) (f := m 0)) rfl dX5_grow_17 ?_
      refine z_get (pc := 20) (c := 1) (j := 9) (v := .int (zI (m 1 9))) hX rfl zfl_RX5_64 (zCat_lt (Or.inl rfl)) (zCat_e (ca := ca) (f := m 1) (Or.inl rfl)) rfl dX5_grow_20 ?_
      refine z_iload_n (pc := 23) hX 1 dX5_grow_23 rfl rfl ?_
      refine z_iadd (pc := 24) hX dX5_grow_24 ?_
      refine z_bipush (pc := 25) hX dX5_grow_25 (by decide +kernel) ?_
      refine z_icmp_le (pc := 27) (tgt := 33) hX dX5_grow_27 (by decide) (fun hc6 => ?_) (fun hc6 => ?_)
      · replace h := (if_neg hc6).symm.trans h
        refine z_iload_n (pc := 33) hX 2 dX5_grow_33 rfl rfl ?_
        refine z_iload_n (pc := 34) hX 1 dX5_grow_34 rfl rfl ?_
        refine z_icmp_lt (pc := 35) (tgt := 41) hX dX5_grow_35 (by decide) (fun hc5 => ?_) (fun hc5 => ?_)
        · replace h := (if_pos hc5).symm.trans h
          refine z_aload_n (pc := 41) hX 0 dX5_grow_41 rfl rfl ?_
          refine z_iload_n (pc := 42) hX 1 dX5_grow_42 rfl rfl ?_
          obtain ⟨r2, m2, hr2, h⟩ := zcl2_s h
          refine z_callVr (pc := 43) (c := 0) hX [.int (zI a1)] [] (wX5_growMost (ca := ca) hG  hr2) rfl zmv_RX5_188 (Nat.le_of_ble_eq_true rfl) (zMain_e (ca := ca) (f := m 0)) rfl rfl ⟨rfl, rfl⟩ ⟨by decide, by decide⟩ (Nat.le_of_ble_eq_true rfl) dX5_grow_43 ?_
          refine z_istore_n (pc := 46) (lv' := [(3, .int (zI r2)), (0, .ref (ad 0)), (1, .int (zI a1)), (2, .int (zI a2))]) hX dX5_grow_46 rfl (by decide) rfl ?_
          refine z_iload_n (pc := 47) hX 3 dX5_grow_47 rfl rfl ?_
          refine z_iconst (pc := 48) hX dX5_grow_48 ?_
          refine z_icmp_ne (pc := 49) (tgt := 56) hX dX5_grow_49 (by decide) (fun hc4 => ?_) (fun hc4 => ?_)
          · replace h := (if_neg hc4).symm.trans h
            refine z_aload_n (pc := 56) hX 1 dX5_grow_56 rfl rfl ?_
            refine z_get (pc := 57) (c := 0) (j := 7) (v := .ref (ad 44)) hX rfl zfl_RX5_53 (Nat.le_of_ble_eq_true rfl) (zMain_e (ca := ca) (f := m2 0)) rfl dX5_grow_57 ?_
            refine z_iload_n (pc := 60) hX 3 dX5_grow_60 rfl rfl ?_
            obtain ⟨x3, hx3, hi3, h⟩ := zrd_s h
            refine z_iald (pc := 61) (c := 44) hX zCi44 hi3 hx3 dX5_grow_61 ?_
            exact z_iret (pc := 62) hX rfl rfl (Prod.mk.inj (Option.some.inj h)).1 (Prod.mk.inj (Option.some.inj h)).2 dX5_grow_62
          · replace h := (if_pos hc4).symm.trans h
            refine z_iload_n (pc := 52) hX 0 dX5_grow_52 rfl rfl ?_
            refine z_goto (pc := 53) (tgt := 62) hX dX5_grow_53 (by decide) ?_
            exact z_iret (pc := 62) hX rfl rfl (Prod.mk.inj (Option.some.inj h)).1 (Prod.mk.inj (Option.some.inj h)).2 dX5_grow_62
        · replace h := (if_neg hc5).symm.trans h
          refine z_bipush (pc := 38) hX dX5_grow_38 (by decide +kernel) ?_
          exact z_iret (pc := 40) hX rfl rfl (Prod.mk.inj (Option.some.inj h)).1 (Prod.mk.inj (Option.some.inj h)).2 dX5_grow_40
      · replace h := (if_pos hc6).symm.trans h
        refine z_bipush (pc := 30) hX dX5_grow_30 (by decide +kernel) ?_
        exact z_iret (pc := 32) hX rfl rfl (Prod.mk.inj (Option.some.inj h)).1 (Prod.mk.inj (Option.some.inj h)).2 dX5_grow_32
    · replace h := (if_pos hc7).symm.trans h
      refine z_iconst (pc := 14) hX dX5_grow_14 ?_
      exact z_iret (pc := 15) hX rfl rfl (Prod.mk.inj (Option.some.inj h)).1 (Prod.mk.inj (Option.some.inj h)).2 dX5_grow_15
def rmX5_in : Room := { frames := 4, cells := 0, slots := 0, locals := 96 }
set_option maxRecDepth 20000 in
set_option maxHeartbeats 4000000 in
theorem wX5_in {l : Launch} {D : va_G} {ca : Nat → ClassId} {ad : Nat → Nat} (hG : zGok (zGC D ca ad)) {a1 : Int} {a2 : Int} {a3 : Int} {r0 : Int} {m0 : zM} {m : zM} (h : FX5_in a1 a2 a3 m = some (r0, m0)) : zCt l (zGC D ca ad) yX5_in cX5_in 5 (some .int) rmX5_in [.ref (ad 0), .int (zI a1), .int (zI a2), .int (zI a3)] m (some (.int (zI r0))) m0 := by
  unfold FX5_in at h
  refine z_of (plainFor_of_name (by decide +kernel)) hG (Nat.le_of_ble_eq_true rfl) (fun X hX => ?_)
  show zV X 5 m 0 [(0, .ref (ad 0)), (1, .int (zI a1)), (2, .int (zI a2)), (3, .int (zI a3))] []
  refine z_iload_n (pc := 0) hX 1 dX5_in_0 rfl rfl ?_
  refine z_if_lt (pc := 1) (tgt := 29) hX dX5_in_1 (by decide) (fun hc13 => ?_) (fun hc13 => ?_)
  · replace h := (if_pos hc13).symm.trans h
    refine z_iconst (pc := 29) hX dX5_in_29 ?_
    exact z_iret (pc := 30) hX rfl rfl (Prod.mk.inj (Option.some.inj h)).1 (Prod.mk.inj (Option.some.inj h)).2 dX5_in_30
  · replace h := (if_neg hc13).symm.trans h
    refine z_iload_n (pc := 4) hX 2 dX5_in_4 rfl rfl ?_
    refine z_iload_n (pc := 5) hX 1 dX5_in_5 rfl rfl ?_
    refine z_icmp_lt (pc := 6) (tgt := 29) hX dX5_in_6 (by decide) (fun hc12 => ?_) (fun hc12 => ?_)
    · replace h := (if_pos hc12).symm.trans h
      refine z_iconst (pc := 29) hX dX5_in_29 ?_
      exact z_iret (pc := 30) hX rfl rfl (Prod.mk.inj (Option.some.inj h)).1 (Prod.mk.inj (Option.some.inj h)).2 dX5_in_30
    · replace h := (if_neg hc12).symm.trans h
      refine z_iload_n (pc := 9) hX 2 dX5_in_9 rfl rfl ?_
      refine z_aload_n (pc := 10) hX 0 dX5_in_10 rfl rfl ?_
      refine z_get (pc := 11) (c := 0) (j := 0) (v := .ref (ad 1)) hX rfl zfl_RX5_12 (Nat.le_of_ble_eq_true rfl) (zMain_e (ca := ca) (f := m 0)) rfl dX5_in_11 ?_
      refine z_get (pc := 14) (c := 1) (j := 9) (v := .int (zI (m 1 9))) hX rfl zfl_RX5_64 (zCat_lt (Or.inl rfl)) (zCat_e (ca := ca) (f := m 1) (Or.inl rfl)) rfl dX5_in_14 ?_
      refine z_icmp_gt (pc := 17) (tgt := 29) hX dX5_in_17 (by decide) (fun hc11 => ?_) (fun hc11 => ?_)
      · replace h := (if_pos hc11).symm.trans h
        refine z_iconst (pc := 29) hX dX5_in_29 ?_
        exact z_iret (pc := 30) hX rfl rfl (Prod.mk.inj (Option.some.inj h)).1 (Prod.mk.inj (Option.some.inj h)).2 dX5_in_30
      · replace h := (if_neg hc11).symm.trans h
        refine z_iload_n (pc := 20) hX 3 dX5_in_20 rfl rfl ?_
        refine z_iconst (pc := 21) hX dX5_in_21 ?_
        refine z_iconst (pc := 22) hX dX5_in_22 ?_
        obtain ⟨r1, hr1, h⟩ := zcl_s h
        refine z_callSr (pc := 23) hX [.int (zI a3), .int (zI 0), .int (zI 2)] [] (wX5_within (ca := ca) hG  hr1) zms_RX5_129 rfl rfl ⟨rfl, rfl⟩ ⟨by decide, by decide⟩ (Nat.le_of_ble_eq_true rfl) dX5_in_23 ?_
        refine z_if_ne (pc := 26) (tgt := 31) hX dX5_in_26 (by decide) (fun hc10 => ?_) (fun hc10 => ?_)
        · replace h := (if_neg hc10).symm.trans h
          refine z_aload_n (pc := 31) hX 0 dX5_in_31 rfl rfl ?_
          refine z_get (pc := 32) (c := 0) (j := 1) (v := .ref (ad 11)) hX rfl zfl_RX5_16 (Nat.le_of_ble_eq_true rfl) (zMain_e (ca := ca) (f := m 0)) rfl dX5_in_32 ?_
          refine z_aload_n (pc := 35) hX 0 dX5_in_35 rfl rfl ?_
          refine z_get (pc := 36) (c := 0) (j := 0) (v := .ref (ad 1)) hX rfl zfl_RX5_12 (Nat.le_of_ble_eq_true rfl) (zMain_e (ca := ca) (f := m 0)) rfl dX5_in_36 ?_
          refine z_get (pc := 39) (c := 1) (j := 0) (v := .ref (ad 2)) hX rfl zfl_RX5_86 (zCat_lt (Or.inl rfl)) (zCat_e (ca := ca) (f := m 1) (Or.inl rfl)) rfl dX5_in_39 ?_
          refine z_iload_n (pc := 42) hX 1 dX5_in_42 rfl rfl ?_
          refine z_iload_n (pc := 43) hX 2 dX5_in_43 rfl rfl ?_
          obtain ⟨m2, hr2, h⟩ := zcl_s h
          refine z_callVv (pc := 44) (v := .null) (c := 11) hX [.ref (ad 2), .int (zI a1), .int (zI a2)] [] (wX1_load (ca := ca) hG (Or.inr rfl) (zCat_a1 (Or.inl rfl)) hr2) rfl zmv_RX5_141 (zCat_lt (Or.inr rfl)) (zCat_e (ca := ca) (f := m 11) (Or.inr rfl)) rfl rfl ⟨rfl, rfl⟩ ⟨by decide, by decide⟩ (Nat.le_of_ble_eq_true rfl) dX5_in_44 ?_
          refine z_iload_n (pc := 47) hX 3 dX5_in_47 rfl rfl ?_
          refine z_iconst (pc := 48) hX dX5_in_48 ?_
          refine z_icmp_ne (pc := 49) (tgt := 60) hX dX5_in_49 (by decide) (fun hc9 => ?_) (fun hc9 => ?_)
          · replace h := (if_neg hc9).symm.trans h
            refine z_aload_n (pc := 60) hX 0 dX5_in_60 rfl rfl ?_
            refine z_get (pc := 61) (c := 0) (j := 1) (v := .ref (ad 11)) hX rfl zfl_RX5_16 (Nat.le_of_ble_eq_true rfl) (zMain_e (ca := ca) (f := m2 0)) rfl dX5_in_61 ?_
            obtain ⟨r3, hr3, h⟩ := zcl_s h
            refine z_callVr (pc := 64) (c := 11) hX [] [] (wX1_longestNode (ca := ca) hG (Or.inr rfl) hr3) rfl zmv_RX5_176 (zCat_lt (Or.inr rfl)) (zCat_e (ca := ca) (f := m2 11) (Or.inr rfl)) rfl rfl ⟨rfl, rfl⟩ ⟨by decide, by decide⟩ (Nat.le_of_ble_eq_true rfl) dX5_in_64 ?_
            refine z_istore (pc := 67) (lv' := [(4, .int (zI r3)), (0, .ref (ad 0)), (1, .int (zI a1)), (2, .int (zI a2)), (3, .int (zI a3))]) hX dX5_in_67 (by decide) rfl ?_
            refine z_iload_n (pc := 69) hX 4 dX5_in_69 rfl rfl ?_
            refine z_if_ne (pc := 70) (tgt := 94) hX dX5_in_70 (by decide) (fun hc8 => ?_) (fun hc8 => ?_)
            · replace h := (if_neg hc8).symm.trans h
              refine z_iload (pc := 94) hX 0 dX5_in_94 rfl ?_
              refine z_iconst (pc := 96) hX dX5_in_96 ?_
              refine z_icmp_ne (pc := 97) (tgt := 105) hX dX5_in_97 (by decide) (fun hc5 => ?_) (fun hc5 => ?_)
              · replace h := (if_neg hc5).symm.trans h
                refine z_iload_n (pc := 105) hX 2 dX5_in_105 rfl rfl ?_
                refine z_aload_n (pc := 106) hX 1 dX5_in_106 rfl rfl ?_
                refine z_get (pc := 107) (c := 0) (j := 1) (v := .ref (ad 11)) hX rfl zfl_RX5_16 (Nat.le_of_ble_eq_true rfl) (zMain_e (ca := ca) (f := m2 0)) rfl dX5_in_107 ?_
                refine z_iload (pc := 110) hX 0 dX5_in_110 rfl ?_
                obtain ⟨r4, hr4, h⟩ := zcl_s h
                refine z_callVr (pc := 112) (c := 11) hX [.int (zI r3)] [.int (zI a1)] (wX1_firstPlace (ca := ca) hG (Or.inr rfl) hr4) rfl zmv_RX5_104 (zCat_lt (Or.inr rfl)) (zCat_e (ca := ca) (f := m2 11) (Or.inr rfl)) rfl rfl ⟨rfl, rfl⟩ ⟨by decide, by decide⟩ (Nat.le_of_ble_eq_true rfl) dX5_in_112 ?_
                refine z_iadd (pc := 115) hX dX5_in_115 ?_
                exact z_iret (pc := 116) hX rfl rfl (Prod.mk.inj (Option.some.inj h)).1 (Prod.mk.inj (Option.some.inj h)).2 dX5_in_116
              · replace h := (if_pos hc5).symm.trans h
                refine z_bipush (pc := 100) hX dX5_in_100 (by decide +kernel) ?_
                refine z_goto (pc := 102) (tgt := 116) hX dX5_in_102 (by decide) ?_
                exact z_iret (pc := 116) hX rfl rfl (Prod.mk.inj (Option.some.inj h)).1 (Prod.mk.inj (Option.some.inj h)).2 dX5_in_116
            · replace h := (if_pos hc8).symm.trans h
              refine z_iload (pc := 73) hX 0 dX5_in_73 rfl ?_
              refine z_iconst (pc := 75) hX dX5_in_75 ?_
              refine z_icmp_ne (pc := 76) (tgt := 83) hX dX5_in_76 (by decide) (fun hc7 => ?_) (fun hc7 => ?_)
              · replace h := (if_neg hc7).symm.trans h
                refine z_aload_n (pc := 83) hX 1 dX5_in_83 rfl rfl ?_
                refine z_get (pc := 84) (c := 0) (j := 1) (v := .ref (ad 11)) hX rfl zfl_RX5_16 (Nat.le_of_ble_eq_true rfl) (zMain_e (ca := ca) (f := m2 0)) rfl dX5_in_84 ?_
                refine z_get (pc := 87) (c := 11) (j := 2) (v := .ref (ad 14)) hX rfl zfl_RX5_101 (zCat_lt (Or.inr rfl)) (zCat_e (ca := ca) (f := m2 11) (Or.inr rfl)) rfl dX5_in_87 ?_
                refine z_iload (pc := 90) hX 0 dX5_in_90 rfl ?_
                obtain ⟨x6, hx6, hi6, h⟩ := zrd_s h
                refine z_iald (pc := 92) (c := 14) hX (zCat_a3 (Or.inr rfl)) hi6 hx6 dX5_in_92 ?_
                exact z_iret (pc := 93) hX rfl rfl (Prod.mk.inj (Option.some.inj h)).1 (Prod.mk.inj (Option.some.inj h)).2 dX5_in_93
              · replace h := (if_pos hc7).symm.trans h
                refine z_iconst (pc := 79) hX dX5_in_79 ?_
                refine z_goto (pc := 80) (tgt := 93) hX dX5_in_80 (by decide) ?_
                exact z_iret (pc := 93) hX rfl rfl (Prod.mk.inj (Option.some.inj h)).1 (Prod.mk.inj (Option.some.inj h)).2 dX5_in_93
          · replace h := (if_pos hc9).symm.trans h
            refine z_aload_n (pc := 52) hX 0 dX5_in_52 rfl rfl ?_
            refine z_get (pc := 53) (c := 0) (j := 1) (v := .ref (ad 11)) hX rfl zfl_RX5_16 (Nat.le_of_ble_eq_true rfl) (zMain_e (ca := ca) (f := m2 0)) rfl dX5_in_53 ?_
            refine z_get (pc := 56) (c := 11) (j := 10) (v := .int (zI (m2 11 10))) hX rfl zfl_RX5_148 (zCat_lt (Or.inr rfl)) (zCat_e (ca := ca) (f := m2 11) (Or.inr rfl)) rfl dX5_in_56 ?_
            exact z_iret (pc := 59) hX rfl rfl (Prod.mk.inj (Option.some.inj h)).1 (Prod.mk.inj (Option.some.inj h)).2 dX5_in_59
        · replace h := (if_pos hc10).symm.trans h
          refine z_iconst (pc := 29) hX dX5_in_29 ?_
          exact z_iret (pc := 30) hX rfl rfl (Prod.mk.inj (Option.some.inj h)).1 (Prod.mk.inj (Option.some.inj h)).2 dX5_in_30
def rmX5_isLane : Room := { frames := 1, cells := 0, slots := 0, locals := 22 }
set_option maxRecDepth 20000 in
set_option maxHeartbeats 4000000 in
theorem wX5_isLane {l : Launch} {D : va_G} {ca : Nat → ClassId} {ad : Nat → Nat} (hG : zGok (zGC D ca ad)) {a0 : Int} {r0 : Int} {m : zM} (h : FX5_isLane a0 = some r0) : zCt l (zGC D ca ad) yX5_isLane cX5_isLane 1 (some .boolean) rmX5_isLane [.int (zI a0)] m (some (.int (zI r0))) m := by
  unfold FX5_isLane at h
  refine z_of (plainFor_of_name (by decide +kernel)) hG (Nat.le_of_ble_eq_true rfl) (fun X hX => ?_)
  show zV X 1 m 0 [(0, .int (zI a0))] []
  refine z_iload_n (pc := 0) hX 0 dX5_isLane_0 rfl rfl ?_
  refine z_iconst (pc := 1) hX dX5_isLane_1 ?_
  refine z_iconst (pc := 2) hX dX5_isLane_2 ?_
  obtain ⟨r1, hr1, h⟩ := zcl_s h
  refine z_callSr (pc := 3) hX [.int (zI a0), .int (zI 0), .int (zI 3)] [] (wX5_within (ca := ca) hG  hr1) zms_RX5_129 rfl rfl ⟨rfl, rfl⟩ ⟨by decide, by decide⟩ (Nat.le_of_ble_eq_true rfl) dX5_isLane_3 ?_
  obtain ⟨g2, h⟩ := zgd_s h
  exact z_zret (pc := 6) hX rfl rfl g2 (Option.some.inj h) rfl dX5_isLane_6
def rmX5_isNode : Room := { frames := 1, cells := 0, slots := 0, locals := 22 }
set_option maxRecDepth 20000 in
set_option maxHeartbeats 4000000 in
theorem wX5_isNode {l : Launch} {D : va_G} {ca : Nat → ClassId} {ad : Nat → Nat} (hG : zGok (zGC D ca ad)) {a1 : Int} {r0 : Int} {m : zM} (h : FX5_isNode a1 m = some r0) : zCt l (zGC D ca ad) yX5_isNode cX5_isNode 2 (some .boolean) rmX5_isNode [.ref (ad 0), .int (zI a1)] m (some (.int (zI r0))) m := by
  unfold FX5_isNode at h
  refine z_of (plainFor_of_name (by decide +kernel)) hG (Nat.le_of_ble_eq_true rfl) (fun X hX => ?_)
  show zV X 2 m 0 [(0, .ref (ad 0)), (1, .int (zI a1))] []
  refine z_iload_n (pc := 0) hX 1 dX5_isNode_0 rfl rfl ?_
  refine z_iconst (pc := 1) hX dX5_isNode_1 ?_
  refine z_aload_n (pc := 2) hX 0 dX5_isNode_2 rfl rfl ?_
  refine z_get (pc := 3) (c := 0) (j := 0) (v := .ref (ad 1)) hX rfl zfl_RX5_12 (Nat.le_of_ble_eq_true rfl) (zMain_e (ca := ca) (f := m 0)) rfl dX5_isNode_3 ?_
  refine z_get (pc := 6) (c := 1) (j := 10) (v := .int (zI (m 1 10))) hX rfl zfl_RX5_148 (zCat_lt (Or.inl rfl)) (zCat_e (ca := ca) (f := m 1) (Or.inl rfl)) rfl dX5_isNode_6 ?_
  refine z_iconst (pc := 9) hX dX5_isNode_9 ?_
  refine z_isub (pc := 10) hX dX5_isNode_10 ?_
  obtain ⟨r1, hr1, h⟩ := zcl_s h
  refine z_callSr (pc := 11) hX [.int (zI a1), .int (zI 0), .int (zI ((m 1 10) - 1))] [] (wX5_within (ca := ca) hG  hr1) zms_RX5_129 rfl rfl ⟨rfl, rfl⟩ ⟨by decide, by decide⟩ (Nat.le_of_ble_eq_true rfl) dX5_isNode_11 ?_
  obtain ⟨g2, h⟩ := zgd_s h
  exact z_zret (pc := 14) hX rfl rfl g2 (Option.some.inj h) rfl dX5_isNode_14
def rmX5_item : Room := { frames := 2, cells := 0, slots := 0, locals := 45 }
set_option maxRecDepth 20000 in
set_option maxHeartbeats 4000000 in
theorem wX5_item {l : Launch} {D : va_G} {ca : Nat → ClassId} {ad : Nat → Nat} (hG : zGok (zGC D ca ad)) {a1 : Int} {a2 : Int} {a3 : Int} {a4 : Int} {r0 : Int} {m0 : zM} {m : zM} (h : FX5_item a1 a2 a3 a4 m = some (r0, m0)) : zCt l (zGC D ca ad) yX5_item cX5_item 7 (some .long) rmX5_item [.ref (ad 0), .int (zI a1), .int (zI a2), .int (zI a3), .long (zJ a4)] m (some (.long (zJ r0))) m0 := by
  unfold FX5_item at h
  refine z_of (plainFor_of_name (by decide +kernel)) hG (Nat.le_of_ble_eq_true rfl) (fun X hX => ?_)
  show zV X 7 m 0 [(0, .ref (ad 0)), (1, .int (zI a1)), (2, .int (zI a2)), (3, .int (zI a3)), (4, .long (zJ a4))] []
  refine z_iload_n (pc := 0) hX 1 dX5_item_0 rfl rfl ?_
  obtain ⟨r1, hr1, h⟩ := zcl_s h
  refine z_callSr (pc := 1) hX [.int (zI a1)] [] (wX5_isSheet (ca := ca) hG  hr1) zms_RX5_218 rfl rfl ⟨rfl, rfl⟩ ⟨by decide, by decide⟩ (Nat.le_of_ble_eq_true rfl) dX5_item_1 ?_
  refine z_if_eq (pc := 4) (tgt := 14) hX dX5_item_4 (by decide) (fun hc10 => ?_) (fun hc10 => ?_)
  · replace h := (if_pos hc10).symm.trans h
    refine z_ldc2 (pc := 14) (n := (-1)) hX zk_RX5_228 (by decide +kernel) dX5_item_14 ?_
    exact z_lret (pc := 17) hX rfl rfl (Prod.mk.inj (Option.some.inj h)).1 (Prod.mk.inj (Option.some.inj h)).2 dX5_item_17
  · replace h := (if_neg hc10).symm.trans h
    refine z_iload_n (pc := 7) hX 2 dX5_item_7 rfl rfl ?_
    obtain ⟨r2, hr2, h⟩ := zcl_s h
    refine z_callSr (pc := 8) hX [.int (zI a2)] [] (wX5_isLane (ca := ca) hG  hr2) zms_RX5_221 rfl rfl ⟨rfl, rfl⟩ ⟨by decide, by decide⟩ (Nat.le_of_ble_eq_true rfl) dX5_item_8 ?_
    refine z_if_ne (pc := 11) (tgt := 18) hX dX5_item_11 (by decide) (fun hc9 => ?_) (fun hc9 => ?_)
    · replace h := (if_neg hc9).symm.trans h
      refine z_aload_n (pc := 18) hX 0 dX5_item_18 rfl rfl ?_
      refine z_get (pc := 19) (c := 0) (j := 6) (v := .ref (ad 35)) hX rfl zfl_RX5_48 (Nat.le_of_ble_eq_true rfl) (zMain_e (ca := ca) (f := m 0)) rfl dX5_item_19 ?_
      refine z_iload_n (pc := 22) hX 1 dX5_item_22 rfl rfl ?_
      obtain ⟨hi3, h⟩ := zix_s h
      refine z_aald (pc := 23) (c := 35) hX zCr35 hi3 dX5_item_23 ?_
      refine z_iload_n (pc := 24) hX 2 dX5_item_24 rfl rfl ?_
      refine z_iload_n (pc := 25) hX 3 dX5_item_25 rfl rfl ?_
      refine z_iconst (pc := 26) hX dX5_item_26 ?_
      obtain ⟨r4, hr4, h⟩ := zcl_s h
      refine z_callVr (pc := 27) (c := (36 + 2 * (a1).toNat)) hX [.int (zI a2), .int (zI a3), .int (zI 1)] [] (wX4_refusal (ca := ca) hG (zSht_k hi3) hr4) rfl zmv_RX5_230 (zSht_lt (zSht_k hi3)) (zSht_e (ca := ca) (f := m (36 + 2 * (a1).toNat)) (zSht_k hi3)) rfl rfl ⟨rfl, rfl⟩ ⟨by decide, by decide⟩ (Nat.le_of_ble_eq_true rfl) dX5_item_27 ?_
      refine z_istore (pc := 30) (lv' := [(6, .int (zI r4)), (0, .ref (ad 0)), (1, .int (zI a1)), (2, .int (zI a2)), (3, .int (zI a3)), (4, .long (zJ a4))]) hX dX5_item_30 (by decide) rfl ?_
      refine z_iload (pc := 32) hX 0 dX5_item_32 rfl ?_
      refine z_if_eq (pc := 34) (tgt := 41) hX dX5_item_34 (by decide) (fun hc8 => ?_) (fun hc8 => ?_)
      · replace h := (if_pos hc8).symm.trans h
        refine z_aload_n (pc := 41) hX 1 dX5_item_41 rfl rfl ?_
        refine z_get (pc := 42) (c := 0) (j := 6) (v := .ref (ad 35)) hX rfl zfl_RX5_48 (Nat.le_of_ble_eq_true rfl) (zMain_e (ca := ca) (f := m 0)) rfl dX5_item_42 ?_
        refine z_iload_n (pc := 45) hX 2 dX5_item_45 rfl rfl ?_
        obtain ⟨hi5, h⟩ := zix_s h
        refine z_aald (pc := 46) (c := 35) hX zCr35 hi5 dX5_item_46 ?_
        refine z_iload_n (pc := 47) hX 4 dX5_item_47 rfl rfl ?_
        refine z_lload (pc := 48) hX 5 dX5_item_48 rfl ?_
        obtain ⟨r6, m6, hr6, h⟩ := zcl2_s h
        refine z_callVr (pc := 50) (c := (36 + 2 * (a1).toNat)) hX [.int (zI a3), .long (zJ a4)] [] (wX4_store (ca := ca) hG (zSht_k hi5) hr6) rfl zmv_RX5_234 (zSht_lt (zSht_k hi5)) (zSht_e (ca := ca) (f := m (36 + 2 * (a1).toNat)) (zSht_k hi5)) rfl rfl ⟨rfl, rfl⟩ ⟨by decide, by decide⟩ (Nat.le_of_ble_eq_true rfl) dX5_item_50 ?_
        exact z_lret (pc := 53) hX rfl rfl (Prod.mk.inj (Option.some.inj h)).1 (Prod.mk.inj (Option.some.inj h)).2 dX5_item_53
      · replace h := (if_neg hc8).symm.trans h
        refine z_iload (pc := 37) hX 0 dX5_item_37 rfl ?_
        obtain ⟨g7, h⟩ := zgd_s h
        refine z_i2l (pc := 39) hX g7 dX5_item_39 ?_
        exact z_lret (pc := 40) hX rfl rfl (Prod.mk.inj (Option.some.inj h)).1 (Prod.mk.inj (Option.some.inj h)).2 dX5_item_40
    · replace h := (if_pos hc9).symm.trans h
      refine z_ldc2 (pc := 14) (n := (-1)) hX zk_RX5_228 (by decide +kernel) dX5_item_14 ?_
      exact z_lret (pc := 17) hX rfl rfl (Prod.mk.inj (Option.some.inj h)).1 (Prod.mk.inj (Option.some.inj h)).2 dX5_item_17
def rmX5_keep : Room := { frames := 2, cells := 0, slots := 0, locals := 48 }
set_option maxRecDepth 20000 in
set_option maxHeartbeats 4000000 in
theorem wX5_keep {l : Launch} {D : va_G} {ca : Nat → ClassId} {ad : Nat → Nat} (hG : zGok (zGC D ca ad)) {a1 : Int} {r0 : Int} {m0 : zM} {m : zM} (h : FX5_keep a1 m = some (r0, m0)) : zCt l (zGC D ca ad) yX5_keep cX5_keep 2 (some .int) rmX5_keep [.ref (ad 0), .int (zI a1)] m (some (.int (zI r0))) m0 := by
  unfold FX5_keep at h
  refine z_of (plainFor_of_name (by decide +kernel)) hG (Nat.le_of_ble_eq_true rfl) (fun X hX => ?_)
  show zV X 2 m 0 [(0, .ref (ad 0)), (1, .int (zI a1))] []
  refine z_iload_n (pc := 0) hX 1 dX5_keep_0 rfl rfl ?_
  refine z_iconst (pc := 1) hX dX5_keep_1 ?_
  refine z_iconst (pc := 2) hX dX5_keep_2 ?_
  obtain ⟨r1, hr1, h⟩ := zcl_s h
  refine z_callSr (pc := 3) hX [.int (zI a1), .int (zI 0), .int (zI 1)] [] (wX5_within (ca := ca) hG  hr1) zms_RX5_129 rfl rfl ⟨rfl, rfl⟩ ⟨by decide, by decide⟩ (Nat.le_of_ble_eq_true rfl) dX5_keep_3 ?_
  refine z_if_ne (pc := 6) (tgt := 11) hX dX5_keep_6 (by decide) (fun hc4 => ?_) (fun hc4 => ?_)
  · replace h := (if_neg hc4).symm.trans h
    refine z_aload_n (pc := 11) hX 0 dX5_keep_11 rfl rfl ?_
    refine z_get (pc := 12) (c := 0) (j := 4) (v := .ref (ad 28)) hX rfl zfl_RX5_35 (Nat.le_of_ble_eq_true rfl) (zMain_e (ca := ca) (f := m 0)) rfl dX5_keep_12 ?_
    refine z_iload_n (pc := 15) hX 1 dX5_keep_15 rfl rfl ?_
    obtain ⟨hi2, h⟩ := zix_s h
    refine z_aald (pc := 16) (c := 28) hX zCr28 hi2 dX5_keep_16 ?_
    refine z_aload_n (pc := 17) hX 0 dX5_keep_17 rfl rfl ?_
    refine z_get (pc := 18) (c := 0) (j := 0) (v := .ref (ad 1)) hX rfl zfl_RX5_12 (Nat.le_of_ble_eq_true rfl) (zMain_e (ca := ca) (f := m 0)) rfl dX5_keep_18 ?_
    refine z_get (pc := 21) (c := 1) (j := 0) (v := .ref (ad 2)) hX rfl zfl_RX5_86 (zCat_lt (Or.inl rfl)) (zCat_e (ca := ca) (f := m 1) (Or.inl rfl)) rfl dX5_keep_21 ?_
    refine z_aload_n (pc := 24) hX 0 dX5_keep_24 rfl rfl ?_
    refine z_get (pc := 25) (c := 0) (j := 0) (v := .ref (ad 1)) hX rfl zfl_RX5_12 (Nat.le_of_ble_eq_true rfl) (zMain_e (ca := ca) (f := m 0)) rfl dX5_keep_25 ?_
    refine z_get (pc := 28) (c := 1) (j := 9) (v := .int (zI (m 1 9))) hX rfl zfl_RX5_64 (zCat_lt (Or.inl rfl)) (zCat_e (ca := ca) (f := m 1) (Or.inl rfl)) rfl dX5_keep_28 ?_
    obtain ⟨m3, hr3, h⟩ := zcl_s h
    refine z_callVv (pc := 31) (v := .null) (c := (29 + 2 * (a1).toNat)) hX [.ref (ad 2), .int (zI (m 1 9))] [] (wX3_hold (ca := ca) hG (zRow_k hi2) (zCat_a1 (Or.inl rfl)) hr3) rfl zmv_RX5_133 (zRow_lt (zRow_k hi2)) (zRow_e (ca := ca) (f := m (29 + 2 * (a1).toNat)) (zRow_k hi2)) rfl rfl ⟨rfl, rfl⟩ ⟨by decide, by decide⟩ (Nat.le_of_ble_eq_true rfl) dX5_keep_31 ?_
    refine z_aload_n (pc := 34) hX 0 dX5_keep_34 rfl rfl ?_
    refine z_get (pc := 35) (c := 0) (j := 0) (v := .ref (ad 1)) hX rfl zfl_RX5_12 (Nat.le_of_ble_eq_true rfl) (zMain_e (ca := ca) (f := m3 0)) rfl dX5_keep_35 ?_
    refine z_get (pc := 38) (c := 1) (j := 9) (v := .int (zI (m3 1 9))) hX rfl zfl_RX5_64 (zCat_lt (Or.inl rfl)) (zCat_e (ca := ca) (f := m3 1) (Or.inl rfl)) rfl dX5_keep_38 ?_
    exact z_iret (pc := 41) hX rfl rfl (Prod.mk.inj (Option.some.inj h)).1 (Prod.mk.inj (Option.some.inj h)).2 dX5_keep_41
  · replace h := (if_pos hc4).symm.trans h
    refine z_iconst (pc := 9) hX dX5_keep_9 ?_
    exact z_iret (pc := 10) hX rfl rfl (Prod.mk.inj (Option.some.inj h)).1 (Prod.mk.inj (Option.some.inj h)).2 dX5_keep_10
def rmX5_letter : Room := { frames := 2, cells := 0, slots := 0, locals := 43 }
set_option maxRecDepth 20000 in
set_option maxHeartbeats 4000000 in
theorem wX5_letter {l : Launch} {D : va_G} {ca : Nat → ClassId} {ad : Nat → Nat} (hG : zGok (zGC D ca ad)) {a1 : Int} {r0 : Int} {m : zM} (h : FX5_letter a1 m = some r0) : zCt l (zGC D ca ad) yX5_letter cX5_letter 2 (some .int) rmX5_letter [.ref (ad 0), .int (zI a1)] m (some (.int (zI r0))) m := by
  unfold FX5_letter at h
  refine z_of (plainFor_of_name (by decide +kernel)) hG (Nat.le_of_ble_eq_true rfl) (fun X hX => ?_)
  show zV X 2 m 0 [(0, .ref (ad 0)), (1, .int (zI a1))] []
  refine z_aload_n (pc := 0) hX 0 dX5_letter_0 rfl rfl ?_
  refine z_iload_n (pc := 1) hX 1 dX5_letter_1 rfl rfl ?_
  obtain ⟨r1, hr1, h⟩ := zcl_s h
  refine z_callVr (pc := 2) (c := 0) hX [.int (zI a1)] [] (wX5_isPlace (ca := ca) hG  hr1) rfl zmv_RX5_83 (Nat.le_of_ble_eq_true rfl) (zMain_e (ca := ca) (f := m 0)) rfl rfl ⟨rfl, rfl⟩ ⟨by decide, by decide⟩ (Nat.le_of_ble_eq_true rfl) dX5_letter_2 ?_
  refine z_if_eq (pc := 5) (tgt := 20) hX dX5_letter_5 (by decide) (fun hc3 => ?_) (fun hc3 => ?_)
  · replace h := (if_pos hc3).symm.trans h
    refine z_iconst (pc := 20) hX dX5_letter_20 ?_
    exact z_iret (pc := 21) hX rfl rfl (Option.some.inj h) rfl dX5_letter_21
  · replace h := (if_neg hc3).symm.trans h
    refine z_aload_n (pc := 8) hX 0 dX5_letter_8 rfl rfl ?_
    refine z_get (pc := 9) (c := 0) (j := 0) (v := .ref (ad 1)) hX rfl zfl_RX5_12 (Nat.le_of_ble_eq_true rfl) (zMain_e (ca := ca) (f := m 0)) rfl dX5_letter_9 ?_
    refine z_get (pc := 12) (c := 1) (j := 0) (v := .ref (ad 2)) hX rfl zfl_RX5_86 (zCat_lt (Or.inl rfl)) (zCat_e (ca := ca) (f := m 1) (Or.inl rfl)) rfl dX5_letter_12 ?_
    refine z_iload_n (pc := 15) hX 1 dX5_letter_15 rfl rfl ?_
    obtain ⟨x2, hx2, hi2, h⟩ := zrd_s h
    refine z_iald (pc := 16) (c := 2) hX (zCat_a1 (Or.inl rfl)) hi2 hx2 dX5_letter_16 ?_
    refine z_goto (pc := 17) (tgt := 21) hX dX5_letter_17 (by decide) ?_
    exact z_iret (pc := 21) hX rfl rfl (Option.some.inj h) rfl dX5_letter_21
def rmX5_mend : Room := { frames := 2, cells := 0, slots := 0, locals := 46 }
set_option maxRecDepth 20000 in
set_option maxHeartbeats 4000000 in
theorem wX5_mend {l : Launch} {D : va_G} {ca : Nat → ClassId} {ad : Nat → Nat} (hG : zGok (zGC D ca ad)) {a1 : Int} {r0 : Int} {m0 : zM} {m : zM} (h : FX5_mend a1 m = some (r0, m0)) : zCt l (zGC D ca ad) yX5_mend cX5_mend 2 (some .int) rmX5_mend [.ref (ad 0), .int (zI a1)] m (some (.int (zI r0))) m0 := by
  unfold FX5_mend at h
  refine z_of (plainFor_of_name (by decide +kernel)) hG (Nat.le_of_ble_eq_true rfl) (fun X hX => ?_)
  show zV X 2 m 0 [(0, .ref (ad 0)), (1, .int (zI a1))] []
  refine z_iload_n (pc := 0) hX 1 dX5_mend_0 rfl rfl ?_
  refine z_if_ne (pc := 1) (tgt := 12) hX dX5_mend_1 (by decide) (fun hc4 => ?_) (fun hc4 => ?_)
  · replace h := (if_neg hc4).symm.trans h
    refine z_iload_n (pc := 12) hX 1 dX5_mend_12 rfl rfl ?_
    refine z_iconst (pc := 13) hX dX5_mend_13 ?_
    refine z_icmp_ne (pc := 14) (tgt := 24) hX dX5_mend_14 (by decide) (fun hc2 => ?_) (fun hc2 => ?_)
    · replace h := (if_neg hc2).symm.trans h
      refine z_iconst (pc := 24) hX dX5_mend_24 ?_
      exact z_iret (pc := 25) hX rfl rfl (Prod.mk.inj (Option.some.inj h)).1 (Prod.mk.inj (Option.some.inj h)).2 dX5_mend_25
    · replace h := (if_pos hc2).symm.trans h
      refine z_aload_n (pc := 17) hX 0 dX5_mend_17 rfl rfl ?_
      obtain ⟨r1, m1, hr1, h⟩ := zcl2_s h
      refine z_callVr (pc := 18) (c := 0) hX [] [] (wX5_fewestFills (ca := ca) hG  hr1) rfl zmv_RX5_182 (Nat.le_of_ble_eq_true rfl) (zMain_e (ca := ca) (f := m 0)) rfl rfl ⟨rfl, rfl⟩ ⟨by decide, by decide⟩ (Nat.le_of_ble_eq_true rfl) dX5_mend_18 ?_
      refine z_goto (pc := 21) (tgt := 25) hX dX5_mend_21 (by decide) ?_
      exact z_iret (pc := 25) hX rfl rfl (Prod.mk.inj (Option.some.inj h)).1 (Prod.mk.inj (Option.some.inj h)).2 dX5_mend_25
  · replace h := (if_pos hc4).symm.trans h
    refine z_aload_n (pc := 4) hX 0 dX5_mend_4 rfl rfl ?_
    refine z_get (pc := 5) (c := 0) (j := 0) (v := .ref (ad 1)) hX rfl zfl_RX5_12 (Nat.le_of_ble_eq_true rfl) (zMain_e (ca := ca) (f := m 0)) rfl dX5_mend_5 ?_
    obtain ⟨r3, hr3, h⟩ := zcl_s h
    refine z_callVr (pc := 8) (c := 1) hX [] [] (wX1_unlikePairs (ca := ca) hG (Or.inl rfl) hr3) rfl zmv_RX5_179 (zCat_lt (Or.inl rfl)) (zCat_e (ca := ca) (f := m 1) (Or.inl rfl)) rfl rfl ⟨rfl, rfl⟩ ⟨by decide, by decide⟩ (Nat.le_of_ble_eq_true rfl) dX5_mend_8 ?_
    exact z_iret (pc := 11) hX rfl rfl (Prod.mk.inj (Option.some.inj h)).1 (Prod.mk.inj (Option.some.inj h)).2 dX5_mend_11
def rmX5_next : Room := { frames := 4, cells := 0, slots := 0, locals := 96 }
set_option maxRecDepth 20000 in
set_option maxHeartbeats 4000000 in
theorem wX5_next {l : Launch} {D : va_G} {ca : Nat → ClassId} {ad : Nat → Nat} (hG : zGok (zGC D ca ad)) {a1 : Int} {a2 : Int} {r0 : Int} {m0 : zM} {m : zM} (h : FX5_next a1 a2 m = some (r0, m0)) : zCt l (zGC D ca ad) yX5_next cX5_next 4 (some .int) rmX5_next [.ref (ad 0), .int (zI a1), .int (zI a2)] m (some (.int (zI r0))) m0 := by
  unfold FX5_next at h
  refine z_of (plainFor_of_name (by decide +kernel)) hG (Nat.le_of_ble_eq_true rfl) (fun X hX => ?_)
  show zV X 4 m 0 [(0, .ref (ad 0)), (1, .int (zI a1)), (2, .int (zI a2))] []
  refine z_iload_n (pc := 0) hX 1 dX5_next_0 rfl rfl ?_
  obtain ⟨r1, hr1, h⟩ := zcl_s h
  refine z_callSr (pc := 1) hX [.int (zI a1)] [] (wX5_isLetter (ca := ca) hG  hr1) zms_RX5_60 rfl rfl ⟨rfl, rfl⟩ ⟨by decide, by decide⟩ (Nat.le_of_ble_eq_true rfl) dX5_next_1 ?_
  refine z_if_eq (pc := 4) (tgt := 16) hX dX5_next_4 (by decide) (fun hc8 => ?_) (fun hc8 => ?_)
  · replace h := (if_pos hc8).symm.trans h
    refine z_iconst (pc := 16) hX dX5_next_16 ?_
    exact z_iret (pc := 17) hX rfl rfl (Prod.mk.inj (Option.some.inj h)).1 (Prod.mk.inj (Option.some.inj h)).2 dX5_next_17
  · replace h := (if_neg hc8).symm.trans h
    refine z_iload_n (pc := 7) hX 2 dX5_next_7 rfl rfl ?_
    refine z_iconst (pc := 8) hX dX5_next_8 ?_
    refine z_iconst (pc := 9) hX dX5_next_9 ?_
    obtain ⟨r2, hr2, h⟩ := zcl_s h
    refine z_callSr (pc := 10) hX [.int (zI a2), .int (zI 0), .int (zI 1)] [] (wX5_within (ca := ca) hG  hr2) zms_RX5_129 rfl rfl ⟨rfl, rfl⟩ ⟨by decide, by decide⟩ (Nat.le_of_ble_eq_true rfl) dX5_next_10 ?_
    refine z_if_ne (pc := 13) (tgt := 18) hX dX5_next_13 (by decide) (fun hc7 => ?_) (fun hc7 => ?_)
    · replace h := (if_neg hc7).symm.trans h
      refine z_aload_n (pc := 18) hX 0 dX5_next_18 rfl rfl ?_
      refine z_get (pc := 19) (c := 0) (j := 0) (v := .ref (ad 1)) hX rfl zfl_RX5_12 (Nat.le_of_ble_eq_true rfl) (zMain_e (ca := ca) (f := m 0)) rfl dX5_next_19 ?_
      refine z_get (pc := 22) (c := 1) (j := 9) (v := .int (zI (m 1 9))) hX rfl zfl_RX5_64 (zCat_lt (Or.inl rfl)) (zCat_e (ca := ca) (f := m 1) (Or.inl rfl)) rfl dX5_next_22 ?_
      refine z_bipush (pc := 25) hX dX5_next_25 (by decide +kernel) ?_
      refine z_icmp_ne (pc := 27) (tgt := 33) hX dX5_next_27 (by decide) (fun hc6 => ?_) (fun hc6 => ?_)
      · replace h := (if_neg hc6).symm.trans h
        refine z_aload_n (pc := 33) hX 0 dX5_next_33 rfl rfl ?_
        refine z_get (pc := 34) (c := 0) (j := 1) (v := .ref (ad 11)) hX rfl zfl_RX5_16 (Nat.le_of_ble_eq_true rfl) (zMain_e (ca := ca) (f := m 0)) rfl dX5_next_34 ?_
        refine z_aload_n (pc := 37) hX 0 dX5_next_37 rfl rfl ?_
        refine z_get (pc := 38) (c := 0) (j := 0) (v := .ref (ad 1)) hX rfl zfl_RX5_12 (Nat.le_of_ble_eq_true rfl) (zMain_e (ca := ca) (f := m 0)) rfl dX5_next_38 ?_
        refine z_get (pc := 41) (c := 1) (j := 0) (v := .ref (ad 2)) hX rfl zfl_RX5_86 (zCat_lt (Or.inl rfl)) (zCat_e (ca := ca) (f := m 1) (Or.inl rfl)) rfl dX5_next_41 ?_
        refine z_iconst (pc := 44) hX dX5_next_44 ?_
        refine z_aload_n (pc := 45) hX 0 dX5_next_45 rfl rfl ?_
        refine z_get (pc := 46) (c := 0) (j := 0) (v := .ref (ad 1)) hX rfl zfl_RX5_12 (Nat.le_of_ble_eq_true rfl) (zMain_e (ca := ca) (f := m 0)) rfl dX5_next_46 ?_
        refine z_get (pc := 49) (c := 1) (j := 9) (v := .int (zI (m 1 9))) hX rfl zfl_RX5_64 (zCat_lt (Or.inl rfl)) (zCat_e (ca := ca) (f := m 1) (Or.inl rfl)) rfl dX5_next_49 ?_
        obtain ⟨m3, hr3, h⟩ := zcl_s h
        refine z_callVv (pc := 52) (v := .null) (c := 11) hX [.ref (ad 2), .int (zI 0), .int (zI (m 1 9))] [] (wX1_load (ca := ca) hG (Or.inr rfl) (zCat_a1 (Or.inl rfl)) hr3) rfl zmv_RX5_141 (zCat_lt (Or.inr rfl)) (zCat_e (ca := ca) (f := m 11) (Or.inr rfl)) rfl rfl ⟨rfl, rfl⟩ ⟨by decide, by decide⟩ (Nat.le_of_ble_eq_true rfl) dX5_next_52 ?_
        refine z_aload_n (pc := 55) hX 0 dX5_next_55 rfl rfl ?_
        refine z_get (pc := 56) (c := 0) (j := 1) (v := .ref (ad 11)) hX rfl zfl_RX5_16 (Nat.le_of_ble_eq_true rfl) (zMain_e (ca := ca) (f := m3 0)) rfl dX5_next_56 ?_
        refine z_iload_n (pc := 59) hX 1 dX5_next_59 rfl rfl ?_
        obtain ⟨r4, m4, hr4, h⟩ := zcl2_s h
        refine z_callVr (pc := 60) (c := 11) hX [.int (zI a1)] [] (wX1_add (ca := ca) hG (Or.inr rfl) hr4) rfl zmv_RX5_72 (zCat_lt (Or.inr rfl)) (zCat_e (ca := ca) (f := m3 11) (Or.inr rfl)) rfl rfl ⟨rfl, rfl⟩ ⟨by decide, by decide⟩ (Nat.le_of_ble_eq_true rfl) dX5_next_60 ?_
        refine z_istore_n (pc := 63) (lv' := [(3, .int (zI r4)), (0, .ref (ad 0)), (1, .int (zI a1)), (2, .int (zI a2))]) hX dX5_next_63 rfl (by decide) rfl ?_
        refine z_iload_n (pc := 64) hX 3 dX5_next_64 rfl rfl ?_
        refine z_if_ne (pc := 65) (tgt := 72) hX dX5_next_65 (by decide) (fun hc5 => ?_) (fun hc5 => ?_)
        · replace h := (if_neg hc5).symm.trans h
          refine z_aload_n (pc := 72) hX 1 dX5_next_72 rfl rfl ?_
          refine z_get (pc := 73) (c := 0) (j := 1) (v := .ref (ad 11)) hX rfl zfl_RX5_16 (Nat.le_of_ble_eq_true rfl) (zMain_e (ca := ca) (f := m4 0)) rfl dX5_next_73 ?_
          refine z_get (pc := 76) (c := 11) (j := 10) (v := .int (zI (m4 11 10))) hX rfl zfl_RX5_148 (zCat_lt (Or.inr rfl)) (zCat_e (ca := ca) (f := m4 11) (Or.inr rfl)) rfl dX5_next_76 ?_
          refine z_aload_n (pc := 79) hX 1 dX5_next_79 rfl rfl ?_
          refine z_get (pc := 80) (c := 0) (j := 0) (v := .ref (ad 1)) hX rfl zfl_RX5_12 (Nat.le_of_ble_eq_true rfl) (zMain_e (ca := ca) (f := m4 0)) rfl dX5_next_80 ?_
          refine z_get (pc := 83) (c := 1) (j := 10) (v := .int (zI (m4 1 10))) hX rfl zfl_RX5_148 (zCat_lt (Or.inl rfl)) (zCat_e (ca := ca) (f := m4 1) (Or.inl rfl)) rfl dX5_next_83 ?_
          refine z_isub (pc := 86) hX dX5_next_86 ?_
          exact z_iret (pc := 87) hX rfl rfl (Prod.mk.inj (Option.some.inj h)).1 (Prod.mk.inj (Option.some.inj h)).2 dX5_next_87
        · replace h := (if_pos hc5).symm.trans h
          refine z_iload_n (pc := 68) hX 0 dX5_next_68 rfl rfl ?_
          refine z_goto (pc := 69) (tgt := 87) hX dX5_next_69 (by decide) ?_
          exact z_iret (pc := 87) hX rfl rfl (Prod.mk.inj (Option.some.inj h)).1 (Prod.mk.inj (Option.some.inj h)).2 dX5_next_87
      · replace h := (if_pos hc6).symm.trans h
        refine z_bipush (pc := 30) hX dX5_next_30 (by decide +kernel) ?_
        exact z_iret (pc := 32) hX rfl rfl (Prod.mk.inj (Option.some.inj h)).1 (Prod.mk.inj (Option.some.inj h)).2 dX5_next_32
    · replace h := (if_pos hc7).symm.trans h
      refine z_iconst (pc := 16) hX dX5_next_16 ?_
      exact z_iret (pc := 17) hX rfl rfl (Prod.mk.inj (Option.some.inj h)).1 (Prod.mk.inj (Option.some.inj h)).2 dX5_next_17
def rmX5_nodeOrNone : Room := { frames := 0, cells := 0, slots := 0, locals := 0 }
set_option maxRecDepth 20000 in
set_option maxHeartbeats 4000000 in
theorem wX5_nodeOrNone {l : Launch} {D : va_G} {ca : Nat → ClassId} {ad : Nat → Nat} (hG : zGok (zGC D ca ad)) {a0 : Int} {r0 : Int} {m : zM} (h : FX5_nodeOrNone a0 = some r0) : zCt l (zGC D ca ad) yX5_nodeOrNone cX5_nodeOrNone 1 (some .int) rmX5_nodeOrNone [.int (zI a0)] m (some (.int (zI r0))) m := by
  unfold FX5_nodeOrNone at h
  refine z_of (plainFor_of_name (by decide +kernel)) hG (Nat.le_of_ble_eq_true rfl) (fun X hX => ?_)
  show zV X 1 m 0 [(0, .int (zI a0))] []
  refine z_iload_n (pc := 0) hX 0 dX5_nodeOrNone_0 rfl rfl ?_
  refine z_bipush (pc := 1) hX dX5_nodeOrNone_1 (by decide +kernel) ?_
  refine z_icmp_ge (pc := 3) (tgt := 10) hX dX5_nodeOrNone_3 (by decide) (fun hc1 => ?_) (fun hc1 => ?_)
  · replace h := (if_neg hc1).symm.trans h
    refine z_bipush (pc := 10) hX dX5_nodeOrNone_10 (by decide +kernel) ?_
    exact z_iret (pc := 12) hX rfl rfl (Option.some.inj h) rfl dX5_nodeOrNone_12
  · replace h := (if_pos hc1).symm.trans h
    refine z_iload_n (pc := 6) hX 0 dX5_nodeOrNone_6 rfl rfl ?_
    refine z_goto (pc := 7) (tgt := 12) hX dX5_nodeOrNone_7 (by decide) ?_
    exact z_iret (pc := 12) hX rfl rfl (Option.some.inj h) rfl dX5_nodeOrNone_12
def rmX5_node : Room := { frames := 2, cells := 0, slots := 0, locals := 50 }
set_option maxRecDepth 20000 in
set_option maxHeartbeats 4000000 in
theorem wX5_node {l : Launch} {D : va_G} {ca : Nat → ClassId} {ad : Nat → Nat} (hG : zGok (zGC D ca ad)) {a1 : Int} {a2 : Int} {r0 : Int} {m : zM} (h : FX5_node a1 a2 m = some r0) : zCt l (zGC D ca ad) yX5_node cX5_node 3 (some .int) rmX5_node [.ref (ad 0), .int (zI a1), .int (zI a2)] m (some (.int (zI r0))) m := by
  unfold FX5_node at h
  refine z_of (plainFor_of_name (by decide +kernel)) hG (Nat.le_of_ble_eq_true rfl) (fun X hX => ?_)
  show zV X 3 m 0 [(0, .ref (ad 0)), (1, .int (zI a1)), (2, .int (zI a2))] []
  refine z_aload_n (pc := 0) hX 0 dX5_node_0 rfl rfl ?_
  refine z_iload_n (pc := 1) hX 1 dX5_node_1 rfl rfl ?_
  obtain ⟨r1, hr1, h⟩ := zcl_s h
  refine z_callVr (pc := 2) (c := 0) hX [.int (zI a1)] [] (wX5_isNode (ca := ca) hG  hr1) rfl zmv_RX5_98 (Nat.le_of_ble_eq_true rfl) (zMain_e (ca := ca) (f := m 0)) rfl rfl ⟨rfl, rfl⟩ ⟨by decide, by decide⟩ (Nat.le_of_ble_eq_true rfl) dX5_node_2 ?_
  refine z_if_ne (pc := 5) (tgt := 10) hX dX5_node_5 (by decide) (fun hc16 => ?_) (fun hc16 => ?_)
  · replace h := (if_neg hc16).symm.trans h
    refine z_iload_n (pc := 10) hX 2 dX5_node_10 rfl rfl ?_
    by_cases hc2_0 : zI a2 = zI 0
    · replace h := (if_pos hc2_0).symm.trans h
      refine z_tswIn (pc := 11) (tgt := 56) (off := 45) hX 0 (by rw [hc2_0]; decide +kernel) dX5_node_11 rfl (by decide) ?_
      refine z_aload_n (pc := 56) hX 0 dX5_node_56 rfl rfl ?_
      refine z_get (pc := 57) (c := 0) (j := 0) (v := .ref (ad 1)) hX rfl zfl_RX5_12 (Nat.le_of_ble_eq_true rfl) (zMain_e (ca := ca) (f := m 0)) rfl dX5_node_57 ?_
      refine z_get (pc := 60) (c := 1) (j := 2) (v := .ref (ad 4)) hX rfl zfl_RX5_101 (zCat_lt (Or.inl rfl)) (zCat_e (ca := ca) (f := m 1) (Or.inl rfl)) rfl dX5_node_60 ?_
      refine z_iload_n (pc := 63) hX 1 dX5_node_63 rfl rfl ?_
      obtain ⟨x3, hx3, hi3, h⟩ := zrd_s h
      refine z_iald (pc := 64) (c := 4) hX (zCat_a3 (Or.inl rfl)) hi3 hx3 dX5_node_64 ?_
      exact z_iret (pc := 65) hX rfl rfl (Option.some.inj h) rfl dX5_node_65
    · replace h := (if_neg hc2_0).symm.trans h
      by_cases hc2_1 : zI a2 = zI 1
      · replace h := (if_pos hc2_1).symm.trans h
        refine z_tswIn (pc := 11) (tgt := 66) (off := 55) hX 1 (by rw [hc2_1]; decide +kernel) dX5_node_11 rfl (by decide) ?_
        refine z_aload_n (pc := 66) hX 0 dX5_node_66 rfl rfl ?_
        refine z_get (pc := 67) (c := 0) (j := 0) (v := .ref (ad 1)) hX rfl zfl_RX5_12 (Nat.le_of_ble_eq_true rfl) (zMain_e (ca := ca) (f := m 0)) rfl dX5_node_67 ?_
        refine z_iload_n (pc := 70) hX 1 dX5_node_70 rfl rfl ?_
        obtain ⟨r4, hr4, h⟩ := zcl_s h
        refine z_callVr (pc := 71) (c := 1) hX [.int (zI a1)] [] (wX1_firstPlace (ca := ca) hG (Or.inl rfl) hr4) rfl zmv_RX5_104 (zCat_lt (Or.inl rfl)) (zCat_e (ca := ca) (f := m 1) (Or.inl rfl)) rfl rfl ⟨rfl, rfl⟩ ⟨by decide, by decide⟩ (Nat.le_of_ble_eq_true rfl) dX5_node_71 ?_
        exact z_iret (pc := 74) hX rfl rfl (Option.some.inj h) rfl dX5_node_74
      · replace h := (if_neg hc2_1).symm.trans h
        by_cases hc2_2 : zI a2 = zI 2
        · replace h := (if_pos hc2_2).symm.trans h
          refine z_tswIn (pc := 11) (tgt := 75) (off := 64) hX 2 (by rw [hc2_2]; decide +kernel) dX5_node_11 rfl (by decide) ?_
          refine z_aload_n (pc := 75) hX 0 dX5_node_75 rfl rfl ?_
          refine z_get (pc := 76) (c := 0) (j := 0) (v := .ref (ad 1)) hX rfl zfl_RX5_12 (Nat.le_of_ble_eq_true rfl) (zMain_e (ca := ca) (f := m 0)) rfl dX5_node_76 ?_
          refine z_iload_n (pc := 79) hX 1 dX5_node_79 rfl rfl ?_
          obtain ⟨r5, hr5, h⟩ := zcl_s h
          refine z_callVr (pc := 80) (c := 1) hX [.int (zI a1)] [] (wX1_lastPlace (ca := ca) hG (Or.inl rfl) hr5) rfl zmv_RX5_107 (zCat_lt (Or.inl rfl)) (zCat_e (ca := ca) (f := m 1) (Or.inl rfl)) rfl rfl ⟨rfl, rfl⟩ ⟨by decide, by decide⟩ (Nat.le_of_ble_eq_true rfl) dX5_node_80 ?_
          exact z_iret (pc := 83) hX rfl rfl (Option.some.inj h) rfl dX5_node_83
        · replace h := (if_neg hc2_2).symm.trans h
          by_cases hc2_3 : zI a2 = zI 3
          · replace h := (if_pos hc2_3).symm.trans h
            refine z_tswIn (pc := 11) (tgt := 84) (off := 73) hX 3 (by rw [hc2_3]; decide +kernel) dX5_node_11 rfl (by decide) ?_
            refine z_aload_n (pc := 84) hX 0 dX5_node_84 rfl rfl ?_
            refine z_get (pc := 85) (c := 0) (j := 0) (v := .ref (ad 1)) hX rfl zfl_RX5_12 (Nat.le_of_ble_eq_true rfl) (zMain_e (ca := ca) (f := m 0)) rfl dX5_node_85 ?_
            refine z_aload_n (pc := 88) hX 0 dX5_node_88 rfl rfl ?_
            refine z_get (pc := 89) (c := 0) (j := 0) (v := .ref (ad 1)) hX rfl zfl_RX5_12 (Nat.le_of_ble_eq_true rfl) (zMain_e (ca := ca) (f := m 0)) rfl dX5_node_89 ?_
            refine z_get (pc := 92) (c := 1) (j := 0) (v := .ref (ad 2)) hX rfl zfl_RX5_86 (zCat_lt (Or.inl rfl)) (zCat_e (ca := ca) (f := m 1) (Or.inl rfl)) rfl dX5_node_92 ?_
            refine z_aload_n (pc := 95) hX 0 dX5_node_95 rfl rfl ?_
            refine z_get (pc := 96) (c := 0) (j := 0) (v := .ref (ad 1)) hX rfl zfl_RX5_12 (Nat.le_of_ble_eq_true rfl) (zMain_e (ca := ca) (f := m 0)) rfl dX5_node_96 ?_
            refine z_iload_n (pc := 99) hX 1 dX5_node_99 rfl rfl ?_
            obtain ⟨r6, hr6, h⟩ := zcl_s h
            refine z_callVr (pc := 100) (c := 1) hX [.int (zI a1)] [.ref (ad 2), .ref (ad 1)] (wX1_firstPlace (ca := ca) hG (Or.inl rfl) hr6) rfl zmv_RX5_104 (zCat_lt (Or.inl rfl)) (zCat_e (ca := ca) (f := m 1) (Or.inl rfl)) rfl rfl ⟨rfl, rfl⟩ ⟨by decide, by decide⟩ (Nat.le_of_ble_eq_true rfl) dX5_node_100 ?_
            refine z_aload_n (pc := 103) hX 0 dX5_node_103 rfl rfl ?_
            refine z_get (pc := 104) (c := 0) (j := 0) (v := .ref (ad 1)) hX rfl zfl_RX5_12 (Nat.le_of_ble_eq_true rfl) (zMain_e (ca := ca) (f := m 0)) rfl dX5_node_104 ?_
            refine z_get (pc := 107) (c := 1) (j := 2) (v := .ref (ad 4)) hX rfl zfl_RX5_101 (zCat_lt (Or.inl rfl)) (zCat_e (ca := ca) (f := m 1) (Or.inl rfl)) rfl dX5_node_107 ?_
            refine z_iload_n (pc := 110) hX 1 dX5_node_110 rfl rfl ?_
            obtain ⟨x7, hx7, hi7, h⟩ := zrd_s h
            refine z_iald (pc := 111) (c := 4) hX (zCat_a3 (Or.inl rfl)) hi7 hx7 dX5_node_111 ?_
            obtain ⟨r8, hr8, h⟩ := zcl_s h
            refine z_callVr (pc := 112) (c := 1) hX [.ref (ad 2), .int (zI r6), .int (zI x7)] [] (wX1_places (ca := ca) hG (Or.inl rfl) (zCat_a1 (Or.inl rfl)) hr8) rfl zmv_RX5_110 (zCat_lt (Or.inl rfl)) (zCat_e (ca := ca) (f := m 1) (Or.inl rfl)) rfl rfl ⟨rfl, rfl⟩ ⟨by decide, by decide⟩ (Nat.le_of_ble_eq_true rfl) dX5_node_112 ?_
            exact z_iret (pc := 115) hX rfl rfl (Option.some.inj h) rfl dX5_node_115
          · replace h := (if_neg hc2_3).symm.trans h
            by_cases hc2_4 : zI a2 = zI 4
            · replace h := (if_pos hc2_4).symm.trans h
              refine z_tswIn (pc := 11) (tgt := 116) (off := 105) hX 4 (by rw [hc2_4]; decide +kernel) dX5_node_11 rfl (by decide) ?_
              refine z_aload_n (pc := 116) hX 0 dX5_node_116 rfl rfl ?_
              refine z_get (pc := 117) (c := 0) (j := 0) (v := .ref (ad 1)) hX rfl zfl_RX5_12 (Nat.le_of_ble_eq_true rfl) (zMain_e (ca := ca) (f := m 0)) rfl dX5_node_117 ?_
              refine z_get (pc := 120) (c := 1) (j := 3) (v := .ref (ad 5)) hX rfl zfl_RX5_114 (zCat_lt (Or.inl rfl)) (zCat_e (ca := ca) (f := m 1) (Or.inl rfl)) rfl dX5_node_120 ?_
              refine z_iload_n (pc := 123) hX 1 dX5_node_123 rfl rfl ?_
              obtain ⟨x9, hx9, hi9, h⟩ := zrd_s h
              refine z_iald (pc := 124) (c := 5) hX (zCat_a4 (Or.inl rfl)) hi9 hx9 dX5_node_124 ?_
              obtain ⟨r10, hr10, h⟩ := zcl_s h
              refine z_callSr (pc := 125) hX [.int (zI x9)] [] (wX5_nodeOrNone (ca := ca) hG  hr10) zms_RX5_117 rfl rfl ⟨rfl, rfl⟩ ⟨by decide, by decide⟩ (Nat.le_of_ble_eq_true rfl) dX5_node_125 ?_
              exact z_iret (pc := 128) hX rfl rfl (Option.some.inj h) rfl dX5_node_128
            · replace h := (if_neg hc2_4).symm.trans h
              by_cases hc2_5 : zI a2 = zI 5
              · replace h := (if_pos hc2_5).symm.trans h
                refine z_tswIn (pc := 11) (tgt := 129) (off := 118) hX 5 (by rw [hc2_5]; decide +kernel) dX5_node_11 rfl (by decide) ?_
                refine z_aload_n (pc := 129) hX 0 dX5_node_129 rfl rfl ?_
                refine z_get (pc := 130) (c := 0) (j := 0) (v := .ref (ad 1)) hX rfl zfl_RX5_12 (Nat.le_of_ble_eq_true rfl) (zMain_e (ca := ca) (f := m 0)) rfl dX5_node_130 ?_
                refine z_iload_n (pc := 133) hX 1 dX5_node_133 rfl rfl ?_
                obtain ⟨r11, hr11, h⟩ := zcl_s h
                refine z_callVr (pc := 134) (c := 1) hX [.int (zI a1)] [] (wX1_less (ca := ca) hG (Or.inl rfl) hr11) rfl zmv_RX5_120 (zCat_lt (Or.inl rfl)) (zCat_e (ca := ca) (f := m 1) (Or.inl rfl)) rfl rfl ⟨rfl, rfl⟩ ⟨by decide, by decide⟩ (Nat.le_of_ble_eq_true rfl) dX5_node_134 ?_
                exact z_iret (pc := 137) hX rfl rfl (Option.some.inj h) rfl dX5_node_137
              · replace h := (if_neg hc2_5).symm.trans h
                by_cases hc2_6 : zI a2 = zI 6
                · replace h := (if_pos hc2_6).symm.trans h
                  refine z_tswIn (pc := 11) (tgt := 138) (off := 127) hX 6 (by rw [hc2_6]; decide +kernel) dX5_node_11 rfl (by decide) ?_
                  refine z_aload_n (pc := 138) hX 0 dX5_node_138 rfl rfl ?_
                  refine z_get (pc := 139) (c := 0) (j := 0) (v := .ref (ad 1)) hX rfl zfl_RX5_12 (Nat.le_of_ble_eq_true rfl) (zMain_e (ca := ca) (f := m 0)) rfl dX5_node_139 ?_
                  refine z_get (pc := 142) (c := 1) (j := 4) (v := .ref (ad 6)) hX rfl zfl_RX5_123 (zCat_lt (Or.inl rfl)) (zCat_e (ca := ca) (f := m 1) (Or.inl rfl)) rfl dX5_node_142 ?_
                  refine z_iload_n (pc := 145) hX 1 dX5_node_145 rfl rfl ?_
                  obtain ⟨x12, hx12, hi12, h⟩ := zrd_s h
                  refine z_iald (pc := 146) (c := 6) hX (zCat_a5 (Or.inl rfl)) hi12 hx12 dX5_node_146 ?_
                  obtain ⟨r13, hr13, h⟩ := zcl_s h
                  refine z_callSr (pc := 147) hX [.int (zI x12)] [] (wX5_nodeOrNone (ca := ca) hG  hr13) zms_RX5_117 rfl rfl ⟨rfl, rfl⟩ ⟨by decide, by decide⟩ (Nat.le_of_ble_eq_true rfl) dX5_node_147 ?_
                  exact z_iret (pc := 150) hX rfl rfl (Option.some.inj h) rfl dX5_node_150
                · replace h := (if_neg hc2_6).symm.trans h
                  by_cases hc2_7 : zI a2 = zI 7
                  · replace h := (if_pos hc2_7).symm.trans h
                    refine z_tswIn (pc := 11) (tgt := 151) (off := 140) hX 7 (by rw [hc2_7]; decide +kernel) dX5_node_11 rfl (by decide) ?_
                    refine z_aload_n (pc := 151) hX 0 dX5_node_151 rfl rfl ?_
                    refine z_get (pc := 152) (c := 0) (j := 0) (v := .ref (ad 1)) hX rfl zfl_RX5_12 (Nat.le_of_ble_eq_true rfl) (zMain_e (ca := ca) (f := m 0)) rfl dX5_node_152 ?_
                    refine z_get (pc := 155) (c := 1) (j := 5) (v := .ref (ad 7)) hX rfl zfl_RX5_126 (zCat_lt (Or.inl rfl)) (zCat_e (ca := ca) (f := m 1) (Or.inl rfl)) rfl dX5_node_155 ?_
                    refine z_iload_n (pc := 158) hX 1 dX5_node_158 rfl rfl ?_
                    obtain ⟨x14, hx14, hi14, h⟩ := zrd_s h
                    refine z_iald (pc := 159) (c := 7) hX (zCat_a6 (Or.inl rfl)) hi14 hx14 dX5_node_159 ?_
                    obtain ⟨r15, hr15, h⟩ := zcl_s h
                    refine z_callSr (pc := 160) hX [.int (zI x14)] [] (wX5_nodeOrNone (ca := ca) hG  hr15) zms_RX5_117 rfl rfl ⟨rfl, rfl⟩ ⟨by decide, by decide⟩ (Nat.le_of_ble_eq_true rfl) dX5_node_160 ?_
                    exact z_iret (pc := 163) hX rfl rfl (Option.some.inj h) rfl dX5_node_163
                  · replace h := (if_neg hc2_7).symm.trans h
                    refine z_tswOut (pc := 11) (tgt := 164) hX (z_out8 hc2_0 hc2_1 hc2_2 hc2_3 hc2_4 hc2_5 hc2_6 hc2_7) dX5_node_11 (by decide) ?_
                    refine z_iconst (pc := 164) hX dX5_node_164 ?_
                    exact z_iret (pc := 165) hX rfl rfl (Option.some.inj h) rfl dX5_node_165
  · replace h := (if_pos hc16).symm.trans h
    refine z_iconst (pc := 8) hX dX5_node_8 ?_
    exact z_iret (pc := 9) hX rfl rfl (Option.some.inj h) rfl dX5_node_9
def rmX5_rowsThatBring : Room := { frames := 5, cells := 0, slots := 0, locals := 117 }
set_option maxRecDepth 20000 in
set_option maxHeartbeats 4000000 in
theorem wX5_rowsThatBring_L16 {X : zXT} {l : Launch} {D : va_G} {ca : Nat → ClassId} {ad : Nat → Nat} (hG : zGok (zGC D ca ad)) {a1 : Int} {a2 : Int}  {r0 : Int} {m0 : zM} {k4 : Int} (hX : zC X l rmX5_rowsThatBring (zGC D ca ad) (some (.int (zI r0))) m0 cX5_rowsThatBring 6 RX5 (some .int)) {k : Int → Int → zM → Option (Int × zM)} (hk : ∀ (v3 : Int) (v5 : Int) (m_ : zM), k v3 v5 m_ = some (r0, m0) → zV X 6 m_ 56 [(0, .ref (ad 0)), (1, .int (zI a1)), (2, .int (zI a2)), (3, .int (zI v3)), (4, .int (zI k4)), (5, .int (zI v5))] []) : ∀ (n : Nat) (v3 : Int) (v5 : Int) (m_ : zM), FX5_rowsThatBring_L16 a1 a2 k4 k n v3 v5 m_ = some (r0, m0) → zV X 6 m_ 16 [(0, .ref (ad 0)), (1, .int (zI a1)), (2, .int (zI a2)), (3, .int (zI v3)), (4, .int (zI k4)), (5, .int (zI v5))] [] := by
  intro n
  induction n with
  | zero => intro v3 v5 m_ h; cases h
  | succ n ih =>
    intro v3 v5 m_ h
    replace h : FX5_rowsThatBring_L16_B a1 a2 k4 k (FX5_rowsThatBring_L16 a1 a2 k4 k n) v3 v5 m_ = some (r0, m0) := h
    unfold FX5_rowsThatBring_L16_B at h
    refine z_iload (pc := 16) hX 5 dX5_rowsThatBring_16 rfl ?_
    refine z_iload (pc := 18) hX 4 dX5_rowsThatBring_18 rfl ?_
    refine z_icmp_ge (pc := 20) (tgt := 56) hX dX5_rowsThatBring_20 (by decide) (fun hc5 => ?_) (fun hc5 => ?_)
    · replace h := (if_neg hc5).symm.trans h
      exact hk _ _ _ h
    · replace h := (if_pos hc5).symm.trans h
      refine z_aload_n (pc := 23) hX 0 dX5_rowsThatBring_23 rfl rfl ?_
      refine z_get (pc := 24) (c := 0) (j := 1) (v := .ref (ad 11)) hX rfl zfl_RX5_16 (Nat.le_of_ble_eq_true rfl) (zMain_e (ca := ca) (f := m_ 0)) rfl dX5_rowsThatBring_24 ?_
      refine z_get (pc := 27) (c := 11) (j := 10) (v := .int (zI (m_ 11 10))) hX rfl zfl_RX5_148 (zCat_lt (Or.inr rfl)) (zCat_e (ca := ca) (f := m_ 11) (Or.inr rfl)) rfl dX5_rowsThatBring_27 ?_
      refine z_aload_n (pc := 30) hX 0 dX5_rowsThatBring_30 rfl rfl ?_
      refine z_get (pc := 31) (c := 0) (j := 0) (v := .ref (ad 1)) hX rfl zfl_RX5_12 (Nat.le_of_ble_eq_true rfl) (zMain_e (ca := ca) (f := m_ 0)) rfl dX5_rowsThatBring_31 ?_
      refine z_get (pc := 34) (c := 1) (j := 10) (v := .int (zI (m_ 1 10))) hX rfl zfl_RX5_148 (zCat_lt (Or.inl rfl)) (zCat_e (ca := ca) (f := m_ 1) (Or.inl rfl)) rfl dX5_rowsThatBring_34 ?_
      refine z_isub (pc := 37) hX dX5_rowsThatBring_37 ?_
      refine z_iload_n (pc := 38) hX 2 dX5_rowsThatBring_38 rfl rfl ?_
      obtain ⟨j45, hj45, h⟩ := zjn_s h (fun (j : Int → Option (Int × zM)) => ∀ (u45_3 : Int), j u45_3 = some (r0, m0) → zV X 6 m_ 45 [(0, .ref (ad 0)), (1, .int (zI a1)), (2, .int (zI a2)), (3, .int (zI u45_3)), (4, .int (zI k4)), (5, .int (zI v5))] []) (fun u45_3 h => by
          refine z_aload_n (pc := 45) hX 0 dX5_rowsThatBring_45 rfl rfl ?_
          refine z_iload_n (pc := 46) hX 1 dX5_rowsThatBring_46 rfl rfl ?_
          obtain ⟨m3, hr3, h⟩ := zcl_s h
          refine z_callVv (pc := 47) (v := .null) (c := 0) hX [.int (zI a1)] [] (wX5_stepRow (ca := ca) hG  hr3) rfl zmv_RX5_269 (Nat.le_of_ble_eq_true rfl) (zMain_e (ca := ca) (f := m_ 0)) rfl rfl ⟨rfl, rfl⟩ ⟨by decide, by decide⟩ (Nat.le_of_ble_eq_true rfl) dX5_rowsThatBring_47 ?_
          refine z_iinc (pc := 50) (lv' := [(5, .int (zI (v5 + 1))), (0, .ref (ad 0)), (1, .int (zI a1)), (2, .int (zI a2)), (3, .int (zI u45_3)), (4, .int (zI k4))]) hX 5 dX5_rowsThatBring_50 rfl (by decide) rfl ?_
          refine z_goto (pc := 53) (tgt := 16) hX dX5_rowsThatBring_53 (by decide) ?_
          refine z_sub [1, 2, 3, 4, 5, 0] rfl ?_
          exact ih _ _ _ h
          )
      refine z_icmp_lt (pc := 39) (tgt := 45) hX dX5_rowsThatBring_39 (by decide) (fun hc4 => ?_) (fun hc4 => ?_)
      · replace h := (if_pos hc4).symm.trans h
        exact hj45 _ h
      · replace h := (if_neg hc4).symm.trans h
        refine z_iinc (pc := 42) (lv' := [(3, .int (zI (v3 + 1))), (0, .ref (ad 0)), (1, .int (zI a1)), (2, .int (zI a2)), (4, .int (zI k4)), (5, .int (zI v5))]) hX 3 dX5_rowsThatBring_42 rfl (by decide) rfl ?_
        refine z_sub [1, 2, 3, 0, 4, 5] rfl ?_
        exact hj45 _ h
set_option maxRecDepth 20000 in
set_option maxHeartbeats 4000000 in
theorem wX5_rowsThatBring {l : Launch} {D : va_G} {ca : Nat → ClassId} {ad : Nat → Nat} (hG : zGok (zGC D ca ad)) {a1 : Int} {a2 : Int} {r0 : Int} {m0 : zM} {m : zM} (h : FX5_rowsThatBring a1 a2 m = some (r0, m0)) : zCt l (zGC D ca ad) yX5_rowsThatBring cX5_rowsThatBring 6 (some .int) rmX5_rowsThatBring [.ref (ad 0), .int (zI a1), .int (zI a2)] m (some (.int (zI r0))) m0 := by
  unfold FX5_rowsThatBring at h
  refine z_of (plainFor_of_name (by decide +kernel)) hG (Nat.le_of_ble_eq_true rfl) (fun X hX => ?_)
  show zV X 6 m 0 [(0, .ref (ad 0)), (1, .int (zI a1)), (2, .int (zI a2))] []
  refine z_iconst (pc := 0) hX dX5_rowsThatBring_0 ?_
  refine z_istore_n (pc := 1) (lv' := [(3, .int (zI 0)), (0, .ref (ad 0)), (1, .int (zI a1)), (2, .int (zI a2))]) hX dX5_rowsThatBring_1 rfl (by decide) rfl ?_
  refine z_iload_n (pc := 2) hX 2 dX5_rowsThatBring_2 rfl rfl ?_
  obtain ⟨r1, hr1, h⟩ := zcl_s h
  refine z_callSr (pc := 3) hX [.int (zI a1)] [] (wX5_rowsOf (ca := ca) hG  hr1) zms_RX5_191 rfl rfl ⟨rfl, rfl⟩ ⟨by decide, by decide⟩ (Nat.le_of_ble_eq_true rfl) dX5_rowsThatBring_3 ?_
  refine z_istore (pc := 6) (lv' := [(4, .int (zI r1)), (3, .int (zI 0)), (0, .ref (ad 0)), (1, .int (zI a1)), (2, .int (zI a2))]) hX dX5_rowsThatBring_6 (by decide) rfl ?_
  refine z_aload_n (pc := 8) hX 2 dX5_rowsThatBring_8 rfl rfl ?_
  refine z_iload_n (pc := 9) hX 3 dX5_rowsThatBring_9 rfl rfl ?_
  obtain ⟨m2, hr2, h⟩ := zcl_s h
  refine z_callVv (pc := 10) (v := .null) (c := 0) hX [.int (zI a1)] [] (wX5_startRows (ca := ca) hG  hr2) rfl zmv_RX5_266 (Nat.le_of_ble_eq_true rfl) (zMain_e (ca := ca) (f := m 0)) rfl rfl ⟨rfl, rfl⟩ ⟨by decide, by decide⟩ (Nat.le_of_ble_eq_true rfl) dX5_rowsThatBring_10 ?_
  refine z_iconst (pc := 13) hX dX5_rowsThatBring_13 ?_
  refine z_istore (pc := 14) (lv' := [(5, .int (zI 0)), (4, .int (zI r1)), (3, .int (zI 0)), (0, .ref (ad 0)), (1, .int (zI a1)), (2, .int (zI a2))]) hX dX5_rowsThatBring_14 (by decide) rfl ?_
  refine z_sub [3, 4, 5, 2, 1, 0] rfl ?_
  refine wX5_rowsThatBring_L16 hG  hX (fun y16_3 y16_5 m16_ h => ?_) _ _ _ _ h
  refine z_iload_n (pc := 56) hX 3 dX5_rowsThatBring_56 rfl rfl ?_
  exact z_iret (pc := 57) hX rfl rfl (Prod.mk.inj (Option.some.inj h)).1 (Prod.mk.inj (Option.some.inj h)).2 dX5_rowsThatBring_57
def rmX5_odds : Room := { frames := 6, cells := 0, slots := 0, locals := 142 }
set_option maxRecDepth 20000 in
set_option maxHeartbeats 4000000 in
theorem wX5_odds {l : Launch} {D : va_G} {ca : Nat → ClassId} {ad : Nat → Nat} (hG : zGok (zGC D ca ad)) {a1 : Int} {a2 : Int} {a3 : Int} {r0 : Int} {m0 : zM} {m : zM} (h : FX5_odds a1 a2 a3 m = some (r0, m0)) : zCt l (zGC D ca ad) yX5_odds cX5_odds 7 (some .int) rmX5_odds [.ref (ad 0), .int (zI a1), .int (zI a2), .int (zI a3)] m (some (.int (zI r0))) m0 := by
  unfold FX5_odds at h
  refine z_of (plainFor_of_name (by decide +kernel)) hG (Nat.le_of_ble_eq_true rfl) (fun X hX => ?_)
  show zV X 7 m 0 [(0, .ref (ad 0)), (1, .int (zI a1)), (2, .int (zI a2)), (3, .int (zI a3))] []
  refine z_iload_n (pc := 0) hX 1 dX5_odds_0 rfl rfl ?_
  refine z_iconst (pc := 1) hX dX5_odds_1 ?_
  refine z_iconst (pc := 2) hX dX5_odds_2 ?_
  obtain ⟨r1, hr1, h⟩ := zcl_s h
  refine z_callSr (pc := 3) hX [.int (zI a1), .int (zI 0), .int (zI 4)] [] (wX5_within (ca := ca) hG  hr1) zms_RX5_129 rfl rfl ⟨rfl, rfl⟩ ⟨by decide, by decide⟩ (Nat.le_of_ble_eq_true rfl) dX5_odds_3 ?_
  refine z_if_eq (pc := 6) (tgt := 28) hX dX5_odds_6 (by decide) (fun hc14 => ?_) (fun hc14 => ?_)
  · replace h := (if_pos hc14).symm.trans h
    refine z_iconst (pc := 28) hX dX5_odds_28 ?_
    exact z_iret (pc := 29) hX rfl rfl (Prod.mk.inj (Option.some.inj h)).1 (Prod.mk.inj (Option.some.inj h)).2 dX5_odds_29
  · replace h := (if_neg hc14).symm.trans h
    refine z_iload_n (pc := 9) hX 2 dX5_odds_9 rfl rfl ?_
    refine z_iconst (pc := 10) hX dX5_odds_10 ?_
    refine z_bipush (pc := 11) hX dX5_odds_11 (by decide +kernel) ?_
    obtain ⟨r2, hr2, h⟩ := zcl_s h
    refine z_callSr (pc := 13) hX [.int (zI a2), .int (zI 0), .int (zI 9)] [] (wX5_within (ca := ca) hG  hr2) zms_RX5_129 rfl rfl ⟨rfl, rfl⟩ ⟨by decide, by decide⟩ (Nat.le_of_ble_eq_true rfl) dX5_odds_13 ?_
    refine z_if_eq (pc := 16) (tgt := 28) hX dX5_odds_16 (by decide) (fun hc13 => ?_) (fun hc13 => ?_)
    · replace h := (if_pos hc13).symm.trans h
      refine z_iconst (pc := 28) hX dX5_odds_28 ?_
      exact z_iret (pc := 29) hX rfl rfl (Prod.mk.inj (Option.some.inj h)).1 (Prod.mk.inj (Option.some.inj h)).2 dX5_odds_29
    · replace h := (if_neg hc13).symm.trans h
      refine z_iload_n (pc := 19) hX 3 dX5_odds_19 rfl rfl ?_
      refine z_iconst (pc := 20) hX dX5_odds_20 ?_
      refine z_iconst (pc := 21) hX dX5_odds_21 ?_
      obtain ⟨r3, hr3, h⟩ := zcl_s h
      refine z_callSr (pc := 22) hX [.int (zI a3), .int (zI 0), .int (zI 1)] [] (wX5_within (ca := ca) hG  hr3) zms_RX5_129 rfl rfl ⟨rfl, rfl⟩ ⟨by decide, by decide⟩ (Nat.le_of_ble_eq_true rfl) dX5_odds_22 ?_
      refine z_if_ne (pc := 25) (tgt := 30) hX dX5_odds_25 (by decide) (fun hc12 => ?_) (fun hc12 => ?_)
      · replace h := (if_neg hc12).symm.trans h
        refine z_aload_n (pc := 30) hX 0 dX5_odds_30 rfl rfl ?_
        refine z_get (pc := 31) (c := 0) (j := 0) (v := .ref (ad 1)) hX rfl zfl_RX5_12 (Nat.le_of_ble_eq_true rfl) (zMain_e (ca := ca) (f := m 0)) rfl dX5_odds_31 ?_
        refine z_get (pc := 34) (c := 1) (j := 9) (v := .int (zI (m 1 9))) hX rfl zfl_RX5_64 (zCat_lt (Or.inl rfl)) (zCat_e (ca := ca) (f := m 1) (Or.inl rfl)) rfl dX5_odds_34 ?_
        refine z_iload_n (pc := 37) hX 1 dX5_odds_37 rfl rfl ?_
        refine z_iadd (pc := 38) hX dX5_odds_38 ?_
        refine z_bipush (pc := 39) hX dX5_odds_39 (by decide +kernel) ?_
        refine z_icmp_le (pc := 41) (tgt := 47) hX dX5_odds_41 (by decide) (fun hc11 => ?_) (fun hc11 => ?_)
        · replace h := (if_neg hc11).symm.trans h
          refine z_iload_n (pc := 47) hX 1 dX5_odds_47 rfl rfl ?_
          obtain ⟨r4, hr4, h⟩ := zcl_s h
          refine z_callSr (pc := 48) hX [.int (zI a1)] [] (wX5_rowsOf (ca := ca) hG  hr4) zms_RX5_191 rfl rfl ⟨rfl, rfl⟩ ⟨by decide, by decide⟩ (Nat.le_of_ble_eq_true rfl) dX5_odds_48 ?_
          refine z_istore (pc := 51) (lv' := [(4, .int (zI r4)), (0, .ref (ad 0)), (1, .int (zI a1)), (2, .int (zI a2)), (3, .int (zI a3))]) hX dX5_odds_51 (by decide) rfl ?_
          refine z_aload_n (pc := 53) hX 1 dX5_odds_53 rfl rfl ?_
          refine z_iload_n (pc := 54) hX 2 dX5_odds_54 rfl rfl ?_
          refine z_iload_n (pc := 55) hX 3 dX5_odds_55 rfl rfl ?_
          obtain ⟨r5, m5, hr5, h⟩ := zcl2_s h
          refine z_callVr (pc := 56) (c := 0) hX [.int (zI a1), .int (zI a2)] [] (wX5_rowsThatBring (ca := ca) hG  hr5) rfl zmv_RX5_194 (Nat.le_of_ble_eq_true rfl) (zMain_e (ca := ca) (f := m 0)) rfl rfl ⟨rfl, rfl⟩ ⟨by decide, by decide⟩ (Nat.le_of_ble_eq_true rfl) dX5_odds_56 ?_
          refine z_istore (pc := 59) (lv' := [(5, .int (zI r5)), (4, .int (zI r4)), (0, .ref (ad 0)), (1, .int (zI a1)), (2, .int (zI a2)), (3, .int (zI a3))]) hX dX5_odds_59 (by decide) rfl ?_
          refine z_iload (pc := 61) hX 0 dX5_odds_61 rfl ?_
          refine z_iload (pc := 63) hX 1 dX5_odds_63 rfl ?_
          obtain ⟨r6, hr6, h⟩ := zcl_s h
          refine z_callSr (pc := 65) hX [.int (zI r5), .int (zI r4)] [] (wX5_greatestDivisor (ca := ca) hG  hr6) zms_RX5_197 rfl rfl ⟨rfl, rfl⟩ ⟨by decide, by decide⟩ (Nat.le_of_ble_eq_true rfl) dX5_odds_65 ?_
          refine z_istore (pc := 68) (lv' := [(6, .int (zI r6)), (5, .int (zI r5)), (4, .int (zI r4)), (0, .ref (ad 0)), (1, .int (zI a1)), (2, .int (zI a2)), (3, .int (zI a3))]) hX dX5_odds_68 (by decide) rfl ?_
          refine z_iload (pc := 70) hX 0 dX5_odds_70 rfl ?_
          refine z_iconst (pc := 72) hX dX5_odds_72 ?_
          refine z_icmp_ge (pc := 73) (tgt := 78) hX dX5_odds_73 (by decide) (fun hc10 => ?_) (fun hc10 => ?_)
          · replace h := (if_neg hc10).symm.trans h
            refine z_iload_n (pc := 78) hX 6 dX5_odds_78 rfl rfl ?_
            refine z_if_ne (pc := 79) (tgt := 87) hX dX5_odds_79 (by decide) (fun hc9 => ?_) (fun hc9 => ?_)
            · replace h := (if_neg hc9).symm.trans h
              refine z_iload (pc := 87) hX 2 dX5_odds_87 rfl ?_
              refine z_iload (pc := 89) hX 0 dX5_odds_89 rfl ?_
              obtain ⟨g7, h⟩ := zgd_s h
              refine z_idiv (pc := 91) hX g7 dX5_odds_91 ?_
              exact z_iret (pc := 92) hX rfl rfl (Prod.mk.inj (Option.some.inj h)).1 (Prod.mk.inj (Option.some.inj h)).2 dX5_odds_92
            · replace h := (if_pos hc9).symm.trans h
              refine z_iload (pc := 82) hX 1 dX5_odds_82 rfl ?_
              refine z_goto (pc := 84) (tgt := 89) hX dX5_odds_84 (by decide) ?_
              refine z_iload (pc := 89) hX 0 dX5_odds_89 rfl ?_
              obtain ⟨g8, h⟩ := zgd_s h
              refine z_idiv (pc := 91) hX g8 dX5_odds_91 ?_
              exact z_iret (pc := 92) hX rfl rfl (Prod.mk.inj (Option.some.inj h)).1 (Prod.mk.inj (Option.some.inj h)).2 dX5_odds_92
          · replace h := (if_pos hc10).symm.trans h
            refine z_iconst (pc := 76) hX dX5_odds_76 ?_
            exact z_iret (pc := 77) hX rfl rfl (Prod.mk.inj (Option.some.inj h)).1 (Prod.mk.inj (Option.some.inj h)).2 dX5_odds_77
        · replace h := (if_pos hc11).symm.trans h
          refine z_bipush (pc := 44) hX dX5_odds_44 (by decide +kernel) ?_
          exact z_iret (pc := 46) hX rfl rfl (Prod.mk.inj (Option.some.inj h)).1 (Prod.mk.inj (Option.some.inj h)).2 dX5_odds_46
      · replace h := (if_pos hc12).symm.trans h
        refine z_iconst (pc := 28) hX dX5_odds_28 ?_
        exact z_iret (pc := 29) hX rfl rfl (Prod.mk.inj (Option.some.inj h)).1 (Prod.mk.inj (Option.some.inj h)).2 dX5_odds_29
def rmX5_pop : Room := { frames := 3, cells := 0, slots := 0, locals := 69 }
set_option maxRecDepth 20000 in
set_option maxHeartbeats 4000000 in
theorem wX5_pop {l : Launch} {D : va_G} {ca : Nat → ClassId} {ad : Nat → Nat} (hG : zGok (zGC D ca ad))  {r0 : Int} {m0 : zM} {m : zM} (h : FX5_pop m = some (r0, m0)) : zCt l (zGC D ca ad) yX5_pop cX5_pop 2 (some .int) rmX5_pop [.ref (ad 0)] m (some (.int (zI r0))) m0 := by
  unfold FX5_pop at h
  refine z_of (plainFor_of_name (by decide +kernel)) hG (Nat.le_of_ble_eq_true rfl) (fun X hX => ?_)
  show zV X 2 m 0 [(0, .ref (ad 0))] []
  refine z_aload_n (pc := 0) hX 0 dX5_pop_0 rfl rfl ?_
  refine z_get (pc := 1) (c := 0) (j := 0) (v := .ref (ad 1)) hX rfl zfl_RX5_12 (Nat.le_of_ble_eq_true rfl) (zMain_e (ca := ca) (f := m 0)) rfl dX5_pop_1 ?_
  refine z_get (pc := 4) (c := 1) (j := 9) (v := .int (zI (m 1 9))) hX rfl zfl_RX5_64 (zCat_lt (Or.inl rfl)) (zCat_e (ca := ca) (f := m 1) (Or.inl rfl)) rfl dX5_pop_4 ?_
  refine z_if_ne (pc := 7) (tgt := 13) hX dX5_pop_7 (by decide) (fun hc4 => ?_) (fun hc4 => ?_)
  · replace h := (if_neg hc4).symm.trans h
    refine z_aload_n (pc := 13) hX 0 dX5_pop_13 rfl rfl ?_
    refine z_get (pc := 14) (c := 0) (j := 0) (v := .ref (ad 1)) hX rfl zfl_RX5_12 (Nat.le_of_ble_eq_true rfl) (zMain_e (ca := ca) (f := m 0)) rfl dX5_pop_14 ?_
    obtain ⟨r1, hr1, h⟩ := zcl_s h
    refine z_callVr (pc := 17) (c := 1) hX [] [] (wX1_lastLetter (ca := ca) hG (Or.inl rfl) hr1) rfl zmv_RX5_76 (zCat_lt (Or.inl rfl)) (zCat_e (ca := ca) (f := m 1) (Or.inl rfl)) rfl rfl ⟨rfl, rfl⟩ ⟨by decide, by decide⟩ (Nat.le_of_ble_eq_true rfl) dX5_pop_17 ?_
    refine z_istore_n (pc := 20) (lv' := [(1, .int (zI r1)), (0, .ref (ad 0))]) hX dX5_pop_20 rfl (by decide) rfl ?_
    refine z_aload_n (pc := 21) hX 1 dX5_pop_21 rfl rfl ?_
    refine z_get (pc := 22) (c := 0) (j := 0) (v := .ref (ad 1)) hX rfl zfl_RX5_12 (Nat.le_of_ble_eq_true rfl) (zMain_e (ca := ca) (f := m 0)) rfl dX5_pop_22 ?_
    obtain ⟨m2, hr2, h⟩ := zcl_s h
    refine z_callVv (pc := 25) (v := .null) (c := 1) hX [] [] (wX1_removeLast (ca := ca) hG (Or.inl rfl) hr2) rfl zmv_RX5_80 (zCat_lt (Or.inl rfl)) (zCat_e (ca := ca) (f := m 1) (Or.inl rfl)) rfl rfl ⟨rfl, rfl⟩ ⟨by decide, by decide⟩ (Nat.le_of_ble_eq_true rfl) dX5_pop_25 ?_
    refine z_aload_n (pc := 28) hX 1 dX5_pop_28 rfl rfl ?_
    refine z_get (pc := 29) (c := 0) (j := 2) (v := .ref (ad 21)) hX rfl zfl_RX5_22 (Nat.le_of_ble_eq_true rfl) (zMain_e (ca := ca) (f := m2 0)) rfl dX5_pop_29 ?_
    refine z_iconst (pc := 32) hX dX5_pop_32 ?_
    refine z_aload_n (pc := 33) hX 1 dX5_pop_33 rfl rfl ?_
    refine z_get (pc := 34) (c := 0) (j := 0) (v := .ref (ad 1)) hX rfl zfl_RX5_12 (Nat.le_of_ble_eq_true rfl) (zMain_e (ca := ca) (f := m2 0)) rfl dX5_pop_34 ?_
    refine z_get (pc := 37) (c := 1) (j := 9) (v := .int (zI (m2 1 9))) hX rfl zfl_RX5_64 (zCat_lt (Or.inl rfl)) (zCat_e (ca := ca) (f := m2 1) (Or.inl rfl)) rfl dX5_pop_37 ?_
    refine z_iload_n (pc := 40) hX 0 dX5_pop_40 rfl rfl ?_
    obtain ⟨m3, hr3, h⟩ := zcl_s h
    refine z_callVv (pc := 41) (v := .null) (c := 21) hX [.int (zI 1), .int (zI (m2 1 9)), .int (zI r1)] [] (wX0_note (ca := ca) hG  hr3) rfl zmv_RX5_68 (Nat.le_of_ble_eq_true rfl) (zActs_e (ca := ca) (f := m2 21)) rfl rfl ⟨rfl, rfl⟩ ⟨by decide, by decide⟩ (Nat.le_of_ble_eq_true rfl) dX5_pop_41 ?_
    refine z_iload_n (pc := 44) hX 0 dX5_pop_44 rfl rfl ?_
    exact z_iret (pc := 45) hX rfl rfl (Prod.mk.inj (Option.some.inj h)).1 (Prod.mk.inj (Option.some.inj h)).2 dX5_pop_45
  · replace h := (if_pos hc4).symm.trans h
    refine z_bipush (pc := 10) hX dX5_pop_10 (by decide +kernel) ?_
    exact z_iret (pc := 12) hX rfl rfl (Prod.mk.inj (Option.some.inj h)).1 (Prod.mk.inj (Option.some.inj h)).2 dX5_pop_12
def rmX5_put : Room := { frames := 3, cells := 0, slots := 0, locals := 72 }
set_option maxRecDepth 20000 in
set_option maxHeartbeats 4000000 in
theorem wX5_put {l : Launch} {D : va_G} {ca : Nat → ClassId} {ad : Nat → Nat} (hG : zGok (zGC D ca ad)) {a1 : Int} {r0 : Int} {m0 : zM} {m : zM} (h : FX5_put a1 m = some (r0, m0)) : zCt l (zGC D ca ad) yX5_put cX5_put 2 (some .int) rmX5_put [.ref (ad 0), .int (zI a1)] m (some (.int (zI r0))) m0 := by
  unfold FX5_put at h
  refine z_of (plainFor_of_name (by decide +kernel)) hG (Nat.le_of_ble_eq_true rfl) (fun X hX => ?_)
  show zV X 2 m 0 [(0, .ref (ad 0)), (1, .int (zI a1))] []
  refine z_iload_n (pc := 0) hX 1 dX5_put_0 rfl rfl ?_
  obtain ⟨r1, hr1, h⟩ := zcl_s h
  refine z_callSr (pc := 1) hX [.int (zI a1)] [] (wX5_isLetter (ca := ca) hG  hr1) zms_RX5_60 rfl rfl ⟨rfl, rfl⟩ ⟨by decide, by decide⟩ (Nat.le_of_ble_eq_true rfl) dX5_put_1 ?_
  refine z_if_ne (pc := 4) (tgt := 9) hX dX5_put_4 (by decide) (fun hc5 => ?_) (fun hc5 => ?_)
  · replace h := (if_neg hc5).symm.trans h
    refine z_aload_n (pc := 9) hX 0 dX5_put_9 rfl rfl ?_
    refine z_get (pc := 10) (c := 0) (j := 0) (v := .ref (ad 1)) hX rfl zfl_RX5_12 (Nat.le_of_ble_eq_true rfl) (zMain_e (ca := ca) (f := m 0)) rfl dX5_put_10 ?_
    refine z_get (pc := 13) (c := 1) (j := 9) (v := .int (zI (m 1 9))) hX rfl zfl_RX5_64 (zCat_lt (Or.inl rfl)) (zCat_e (ca := ca) (f := m 1) (Or.inl rfl)) rfl dX5_put_13 ?_
    refine z_bipush (pc := 16) hX dX5_put_16 (by decide +kernel) ?_
    refine z_icmp_ne (pc := 18) (tgt := 24) hX dX5_put_18 (by decide) (fun hc4 => ?_) (fun hc4 => ?_)
    · replace h := (if_neg hc4).symm.trans h
      refine z_aload_n (pc := 24) hX 0 dX5_put_24 rfl rfl ?_
      refine z_get (pc := 25) (c := 0) (j := 2) (v := .ref (ad 21)) hX rfl zfl_RX5_22 (Nat.le_of_ble_eq_true rfl) (zMain_e (ca := ca) (f := m 0)) rfl dX5_put_25 ?_
      refine z_iconst (pc := 28) hX dX5_put_28 ?_
      refine z_aload_n (pc := 29) hX 0 dX5_put_29 rfl rfl ?_
      refine z_get (pc := 30) (c := 0) (j := 0) (v := .ref (ad 1)) hX rfl zfl_RX5_12 (Nat.le_of_ble_eq_true rfl) (zMain_e (ca := ca) (f := m 0)) rfl dX5_put_30 ?_
      refine z_get (pc := 33) (c := 1) (j := 9) (v := .int (zI (m 1 9))) hX rfl zfl_RX5_64 (zCat_lt (Or.inl rfl)) (zCat_e (ca := ca) (f := m 1) (Or.inl rfl)) rfl dX5_put_33 ?_
      refine z_iload_n (pc := 36) hX 1 dX5_put_36 rfl rfl ?_
      obtain ⟨m2, hr2, h⟩ := zcl_s h
      refine z_callVv (pc := 37) (v := .null) (c := 21) hX [.int (zI 0), .int (zI (m 1 9)), .int (zI a1)] [] (wX0_note (ca := ca) hG  hr2) rfl zmv_RX5_68 (Nat.le_of_ble_eq_true rfl) (zActs_e (ca := ca) (f := m 21)) rfl rfl ⟨rfl, rfl⟩ ⟨by decide, by decide⟩ (Nat.le_of_ble_eq_true rfl) dX5_put_37 ?_
      refine z_aload_n (pc := 40) hX 0 dX5_put_40 rfl rfl ?_
      refine z_get (pc := 41) (c := 0) (j := 0) (v := .ref (ad 1)) hX rfl zfl_RX5_12 (Nat.le_of_ble_eq_true rfl) (zMain_e (ca := ca) (f := m2 0)) rfl dX5_put_41 ?_
      refine z_iload_n (pc := 44) hX 1 dX5_put_44 rfl rfl ?_
      obtain ⟨r3, m3, hr3, h⟩ := zcl2_s h
      refine z_callVr (pc := 45) (c := 1) hX [.int (zI a1)] [] (wX1_add (ca := ca) hG (Or.inl rfl) hr3) rfl zmv_RX5_72 (zCat_lt (Or.inl rfl)) (zCat_e (ca := ca) (f := m2 1) (Or.inl rfl)) rfl rfl ⟨rfl, rfl⟩ ⟨by decide, by decide⟩ (Nat.le_of_ble_eq_true rfl) dX5_put_45 ?_
      exact z_iret (pc := 48) hX rfl rfl (Prod.mk.inj (Option.some.inj h)).1 (Prod.mk.inj (Option.some.inj h)).2 dX5_put_48
    · replace h := (if_pos hc4).symm.trans h
      refine z_bipush (pc := 21) hX dX5_put_21 (by decide +kernel) ?_
      exact z_iret (pc := 23) hX rfl rfl (Prod.mk.inj (Option.some.inj h)).1 (Prod.mk.inj (Option.some.inj h)).2 dX5_put_23
  · replace h := (if_pos hc5).symm.trans h
    refine z_iconst (pc := 7) hX dX5_put_7 ?_
    exact z_iret (pc := 8) hX rfl rfl (Prod.mk.inj (Option.some.inj h)).1 (Prod.mk.inj (Option.some.inj h)).2 dX5_put_8
def rmX5_read : Room := { frames := 2, cells := 0, slots := 0, locals := 44 }
set_option maxRecDepth 20000 in
set_option maxHeartbeats 4000000 in
theorem wX5_read_L89 {X : zXT} {l : Launch} {D : va_G} {ca : Nat → ClassId} {ad : Nat → Nat} (hG : zGok (zGC D ca ad)) {a1 : Int} {a2 : Int} {a3 : Int} {a4 : Int} (hi4 : 0 ≤ a1 ∧ a1 < 4) {r0 : Int} {m0 : zM}  (hX : zC X l rmX5_read (zGC D ca ad) (some (.int (zI r0))) m0 cX5_read 8 RX5 (some .int)) {k : Int → zM → Option (Int × zM)} (hk : ∀ (v7 : Int) (m_ : zM), k v7 m_ = some (r0, m0) → zV X 8 m_ 120 [(0, .ref (ad 0)), (3, .int (zI a3)), (4, .int (zI a4)), (5, .ref (ad (36 + 2 * (a1).toNat))), (7, .int (zI v7))] []) : ∀ (n : Nat) (v7 : Int) (m_ : zM), FX5_read_L89 a1 a2 a3 a4 k n v7 m_ = some (r0, m0) → zV X 8 m_ 89 [(0, .ref (ad 0)), (3, .int (zI a3)), (4, .int (zI a4)), (5, .ref (ad (36 + 2 * (a1).toNat))), (7, .int (zI v7))] [] := by
  intro n
  induction n with
  | zero => intro v7 m_ h; cases h
  | succ n ih =>
    intro v7 m_ h
    replace h : FX5_read_L89_B a1 a2 a3 a4 k (FX5_read_L89 a1 a2 a3 a4 k n) v7 m_ = some (r0, m0) := h
    unfold FX5_read_L89_B at h
    refine z_iload (pc := 89) hX 4 dX5_read_89 rfl ?_
    refine z_iload (pc := 91) hX 2 dX5_read_91 rfl ?_
    refine z_icmp_ge (pc := 93) (tgt := 120) hX dX5_read_93 (by decide) (fun hc9 => ?_) (fun hc9 => ?_)
    · replace h := (if_neg hc9).symm.trans h
      exact hk _ _ h
    · replace h := (if_pos hc9).symm.trans h
      refine z_aload_n (pc := 96) hX 0 dX5_read_96 rfl rfl ?_
      refine z_get (pc := 97) (c := 0) (j := 5) (v := .ref (ad 33)) hX rfl zfl_RX5_42 (Nat.le_of_ble_eq_true rfl) (zMain_e (ca := ca) (f := m_ 0)) rfl dX5_read_97 ?_
      refine z_aload (pc := 100) hX 3 dX5_read_100 rfl ?_
      refine z_get (pc := 102) (c := (36 + 2 * (a1).toNat)) (j := 0) (v := .ref (ad ((36 + 2 * (a1).toNat) + 1))) hX rfl zfl_RX5_241 (zSht_lt (zSht_k hi4)) (zSht_e (ca := ca) (f := m_ (36 + 2 * (a1).toNat)) (zSht_k hi4)) rfl dX5_read_102 ?_
      refine z_iload_n (pc := 105) hX 1 dX5_read_105 rfl rfl ?_
      refine z_iload (pc := 106) hX 4 dX5_read_106 rfl ?_
      refine z_iadd (pc := 108) hX dX5_read_108 ?_
      obtain ⟨x7, hx7, hi7, h⟩ := zrd_s h
      refine z_lald (pc := 109) (c := ((36 + 2 * (a1).toNat) + 1)) hX (zSht_a1 (zSht_k hi4)) hi7 hx7 dX5_read_109 ?_
      refine z_l2i (pc := 110) hX dX5_read_110 ?_
      obtain ⟨m8, hr8, h⟩ := zcl_s h
      refine z_callVv (pc := 111) (v := .null) (c := 33) hX [.int (zI (zw x7))] [] (wX3_append (ca := ca) hG (Or.inr (Or.inr rfl)) hr8) rfl zmv_RX5_215 (zRow_lt (Or.inr (Or.inr rfl))) (zRow_e (ca := ca) (f := m_ 33) (Or.inr (Or.inr rfl))) rfl rfl ⟨rfl, rfl⟩ ⟨by decide, by decide⟩ (Nat.le_of_ble_eq_true rfl) dX5_read_111 ?_
      refine z_iinc (pc := 114) (lv' := [(7, .int (zI (v7 + 1))), (0, .ref (ad 0)), (3, .int (zI a3)), (4, .int (zI a4)), (5, .ref (ad (36 + 2 * (a1).toNat)))]) hX 4 dX5_read_114 rfl (by decide) rfl ?_
      refine z_goto (pc := 117) (tgt := 89) hX dX5_read_117 (by decide) ?_
      refine z_sub [1, 2, 3, 4, 0] rfl ?_
      exact ih _ _ h
set_option maxRecDepth 20000 in
set_option maxHeartbeats 4000000 in
theorem wX5_read {l : Launch} {D : va_G} {ca : Nat → ClassId} {ad : Nat → Nat} (hG : zGok (zGC D ca ad)) {a1 : Int} {a2 : Int} {a3 : Int} {a4 : Int} {r0 : Int} {m0 : zM} {m : zM} (h : FX5_read a1 a2 a3 a4 m = some (r0, m0)) : zCt l (zGC D ca ad) yX5_read cX5_read 8 (some .int) rmX5_read [.ref (ad 0), .int (zI a1), .int (zI a2), .int (zI a3), .int (zI a4)] m (some (.int (zI r0))) m0 := by
  unfold FX5_read at h
  refine z_of (plainFor_of_name (by decide +kernel)) hG (Nat.le_of_ble_eq_true rfl) (fun X hX => ?_)
  show zV X 8 m 0 [(0, .ref (ad 0)), (1, .int (zI a1)), (2, .int (zI a2)), (3, .int (zI a3)), (4, .int (zI a4))] []
  refine z_iload_n (pc := 0) hX 1 dX5_read_0 rfl rfl ?_
  obtain ⟨r1, hr1, h⟩ := zcl_s h
  refine z_callSr (pc := 1) hX [.int (zI a1)] [] (wX5_isSheet (ca := ca) hG  hr1) zms_RX5_218 rfl rfl ⟨rfl, rfl⟩ ⟨by decide, by decide⟩ (Nat.le_of_ble_eq_true rfl) dX5_read_1 ?_
  refine z_if_eq (pc := 4) (tgt := 25) hX dX5_read_4 (by decide) (fun hc15 => ?_) (fun hc15 => ?_)
  · replace h := (if_pos hc15).symm.trans h
    refine z_iconst (pc := 25) hX dX5_read_25 ?_
    exact z_iret (pc := 26) hX rfl rfl (Prod.mk.inj (Option.some.inj h)).1 (Prod.mk.inj (Option.some.inj h)).2 dX5_read_26
  · replace h := (if_neg hc15).symm.trans h
    refine z_iload_n (pc := 7) hX 2 dX5_read_7 rfl rfl ?_
    obtain ⟨r2, hr2, h⟩ := zcl_s h
    refine z_callSr (pc := 8) hX [.int (zI a2)] [] (wX5_isLane (ca := ca) hG  hr2) zms_RX5_221 rfl rfl ⟨rfl, rfl⟩ ⟨by decide, by decide⟩ (Nat.le_of_ble_eq_true rfl) dX5_read_8 ?_
    refine z_if_eq (pc := 11) (tgt := 25) hX dX5_read_11 (by decide) (fun hc14 => ?_) (fun hc14 => ?_)
    · replace h := (if_pos hc14).symm.trans h
      refine z_iconst (pc := 25) hX dX5_read_25 ?_
      exact z_iret (pc := 26) hX rfl rfl (Prod.mk.inj (Option.some.inj h)).1 (Prod.mk.inj (Option.some.inj h)).2 dX5_read_26
    · replace h := (if_neg hc14).symm.trans h
      refine z_iload (pc := 14) hX 4 dX5_read_14 rfl ?_
      refine z_iconst (pc := 16) hX dX5_read_16 ?_
      refine z_bipush (pc := 17) hX dX5_read_17 (by decide +kernel) ?_
      obtain ⟨r3, hr3, h⟩ := zcl_s h
      refine z_callSr (pc := 19) hX [.int (zI a4), .int (zI 0), .int (zI 48)] [] (wX5_within (ca := ca) hG  hr3) zms_RX5_129 rfl rfl ⟨rfl, rfl⟩ ⟨by decide, by decide⟩ (Nat.le_of_ble_eq_true rfl) dX5_read_19 ?_
      refine z_if_ne (pc := 22) (tgt := 27) hX dX5_read_22 (by decide) (fun hc13 => ?_) (fun hc13 => ?_)
      · replace h := (if_neg hc13).symm.trans h
        refine z_aload_n (pc := 27) hX 0 dX5_read_27 rfl rfl ?_
        refine z_get (pc := 28) (c := 0) (j := 6) (v := .ref (ad 35)) hX rfl zfl_RX5_48 (Nat.le_of_ble_eq_true rfl) (zMain_e (ca := ca) (f := m 0)) rfl dX5_read_28 ?_
        refine z_iload_n (pc := 31) hX 1 dX5_read_31 rfl rfl ?_
        obtain ⟨hi4, h⟩ := zix_s h
        refine z_aald (pc := 32) (c := 35) hX zCr35 hi4 dX5_read_32 ?_
        refine z_astore (pc := 33) (lv' := [(5, .ref (ad (36 + 2 * (a1).toNat))), (0, .ref (ad 0)), (1, .int (zI a1)), (2, .int (zI a2)), (3, .int (zI a3)), (4, .int (zI a4))]) hX dX5_read_33 (by decide) rfl ?_
        refine z_aload (pc := 35) hX 0 dX5_read_35 rfl ?_
        refine z_iload_n (pc := 37) hX 3 dX5_read_37 rfl rfl ?_
        refine z_iload_n (pc := 38) hX 4 dX5_read_38 rfl rfl ?_
        refine z_iload (pc := 39) hX 5 dX5_read_39 rfl ?_
        obtain ⟨r5, hr5, h⟩ := zcl_s h
        refine z_callVr (pc := 41) (c := (36 + 2 * (a1).toNat)) hX [.int (zI a2), .int (zI a3), .int (zI a4)] [] (wX4_refusal (ca := ca) hG (zSht_k hi4) hr5) rfl zmv_RX5_230 (zSht_lt (zSht_k hi4)) (zSht_e (ca := ca) (f := m (36 + 2 * (a1).toNat)) (zSht_k hi4)) rfl rfl ⟨rfl, rfl⟩ ⟨by decide, by decide⟩ (Nat.le_of_ble_eq_true rfl) dX5_read_41 ?_
        refine z_istore (pc := 44) (lv' := [(6, .int (zI r5)), (5, .ref (ad (36 + 2 * (a1).toNat))), (0, .ref (ad 0)), (1, .int (zI a1)), (2, .int (zI a2)), (3, .int (zI a3)), (4, .int (zI a4))]) hX dX5_read_44 (by decide) rfl ?_
        refine z_iload (pc := 46) hX 0 dX5_read_46 rfl ?_
        refine z_if_eq (pc := 48) (tgt := 54) hX dX5_read_48 (by decide) (fun hc12 => ?_) (fun hc12 => ?_)
        · replace h := (if_pos hc12).symm.trans h
          refine z_aload (pc := 54) hX 1 dX5_read_54 rfl ?_
          refine z_iload_n (pc := 56) hX 5 dX5_read_56 rfl rfl ?_
          refine z_iload (pc := 57) hX 6 dX5_read_57 rfl ?_
          obtain ⟨r6, hr6, h⟩ := zcl_s h
          refine z_callVr (pc := 59) (c := (36 + 2 * (a1).toNat)) hX [.int (zI a3), .int (zI a4)] [] (wX4_holdsBytes (ca := ca) hG (zSht_k hi4) hr6) rfl zmv_RX5_251 (zSht_lt (zSht_k hi4)) (zSht_e (ca := ca) (f := m (36 + 2 * (a1).toNat)) (zSht_k hi4)) rfl rfl ⟨rfl, rfl⟩ ⟨by decide, by decide⟩ (Nat.le_of_ble_eq_true rfl) dX5_read_59 ?_
          refine z_if_ne (pc := 62) (tgt := 68) hX dX5_read_62 (by decide) (fun hc11 => ?_) (fun hc11 => ?_)
          · replace h := (if_neg hc11).symm.trans h
            refine z_aload_n (pc := 68) hX 2 dX5_read_68 rfl rfl ?_
            refine z_get (pc := 69) (c := 0) (j := 5) (v := .ref (ad 33)) hX rfl zfl_RX5_42 (Nat.le_of_ble_eq_true rfl) (zMain_e (ca := ca) (f := m 0)) rfl dX5_read_69 ?_
            refine z_get (pc := 72) (c := 33) (j := 1) (v := .int (zI (m 33 1))) hX rfl zfl_RX5_137 (zRow_lt (Or.inr (Or.inr rfl))) (zRow_e (ca := ca) (f := m 33) (Or.inr (Or.inr rfl))) rfl dX5_read_72 ?_
            refine z_iload (pc := 75) hX 6 dX5_read_75 rfl ?_
            refine z_iadd (pc := 77) hX dX5_read_77 ?_
            refine z_bipush (pc := 78) hX dX5_read_78 (by decide +kernel) ?_
            refine z_icmp_le (pc := 80) (tgt := 86) hX dX5_read_80 (by decide) (fun hc10 => ?_) (fun hc10 => ?_)
            · replace h := (if_neg hc10).symm.trans h
              refine z_iconst (pc := 86) hX dX5_read_86 ?_
              refine z_istore (pc := 87) (lv' := [(7, .int (zI 0)), (6, .int (zI r5)), (5, .ref (ad (36 + 2 * (a1).toNat))), (0, .ref (ad 0)), (1, .int (zI a1)), (2, .int (zI a2)), (3, .int (zI a3)), (4, .int (zI a4))]) hX dX5_read_87 (by decide) rfl ?_
              refine z_sub [3, 6, 7, 2, 0] rfl ?_
              refine wX5_read_L89 hG hi4 hX (fun y89_7 m89_ h => ?_) _ _ _ h
              refine z_aload_n (pc := 120) hX 0 dX5_read_120 rfl rfl ?_
              refine z_get (pc := 121) (c := 0) (j := 5) (v := .ref (ad 33)) hX rfl zfl_RX5_42 (Nat.le_of_ble_eq_true rfl) (zMain_e (ca := ca) (f := m89_ 0)) rfl dX5_read_121 ?_
              refine z_get (pc := 124) (c := 33) (j := 1) (v := .int (zI (m89_ 33 1))) hX rfl zfl_RX5_137 (zRow_lt (Or.inr (Or.inr rfl))) (zRow_e (ca := ca) (f := m89_ 33) (Or.inr (Or.inr rfl))) rfl dX5_read_124 ?_
              exact z_iret (pc := 127) hX rfl rfl (Prod.mk.inj (Option.some.inj h)).1 (Prod.mk.inj (Option.some.inj h)).2 dX5_read_127
            · replace h := (if_pos hc10).symm.trans h
              refine z_bipush (pc := 83) hX dX5_read_83 (by decide +kernel) ?_
              exact z_iret (pc := 85) hX rfl rfl (Prod.mk.inj (Option.some.inj h)).1 (Prod.mk.inj (Option.some.inj h)).2 dX5_read_85
          · replace h := (if_pos hc11).symm.trans h
            refine z_bipush (pc := 65) hX dX5_read_65 (by decide +kernel) ?_
            exact z_iret (pc := 67) hX rfl rfl (Prod.mk.inj (Option.some.inj h)).1 (Prod.mk.inj (Option.some.inj h)).2 dX5_read_67
        · replace h := (if_neg hc12).symm.trans h
          refine z_iload (pc := 51) hX 0 dX5_read_51 rfl ?_
          exact z_iret (pc := 53) hX rfl rfl (Prod.mk.inj (Option.some.inj h)).1 (Prod.mk.inj (Option.some.inj h)).2 dX5_read_53
      · replace h := (if_pos hc13).symm.trans h
        refine z_iconst (pc := 25) hX dX5_read_25 ?_
        exact z_iret (pc := 26) hX rfl rfl (Prod.mk.inj (Option.some.inj h)).1 (Prod.mk.inj (Option.some.inj h)).2 dX5_read_26
def rmX5_sheet : Room := { frames := 2, cells := 0, slots := 0, locals := 46 }
set_option maxRecDepth 20000 in
set_option maxHeartbeats 4000000 in
theorem wX5_sheet {l : Launch} {D : va_G} {ca : Nat → ClassId} {ad : Nat → Nat} (hG : zGok (zGC D ca ad)) {a1 : Int} {a2 : Int} {a3 : Int} {r0 : Int} {m0 : zM} {m : zM} (h : FX5_sheet a1 a2 a3 m = some (r0, m0)) : zCt l (zGC D ca ad) yX5_sheet cX5_sheet 4 (some .int) rmX5_sheet [.ref (ad 0), .int (zI a1), .int (zI a2), .int (zI a3)] m (some (.int (zI r0))) m0 := by
  unfold FX5_sheet at h
  refine z_of (plainFor_of_name (by decide +kernel)) hG (Nat.le_of_ble_eq_true rfl) (fun X hX => ?_)
  show zV X 4 m 0 [(0, .ref (ad 0)), (1, .int (zI a1)), (2, .int (zI a2)), (3, .int (zI a3))] []
  refine z_iload_n (pc := 0) hX 1 dX5_sheet_0 rfl rfl ?_
  obtain ⟨r1, hr1, h⟩ := zcl_s h
  refine z_callSr (pc := 1) hX [.int (zI a1)] [] (wX5_isSheet (ca := ca) hG  hr1) zms_RX5_218 rfl rfl ⟨rfl, rfl⟩ ⟨by decide, by decide⟩ (Nat.le_of_ble_eq_true rfl) dX5_sheet_1 ?_
  refine z_if_eq (pc := 4) (tgt := 20) hX dX5_sheet_4 (by decide) (fun hc8 => ?_) (fun hc8 => ?_)
  · replace h := (if_pos hc8).symm.trans h
    refine z_iconst (pc := 20) hX dX5_sheet_20 ?_
    exact z_iret (pc := 21) hX rfl rfl (Prod.mk.inj (Option.some.inj h)).1 (Prod.mk.inj (Option.some.inj h)).2 dX5_sheet_21
  · replace h := (if_neg hc8).symm.trans h
    refine z_iload_n (pc := 7) hX 2 dX5_sheet_7 rfl rfl ?_
    obtain ⟨r2, hr2, h⟩ := zcl_s h
    refine z_callSr (pc := 8) hX [.int (zI a2)] [] (wX5_isLane (ca := ca) hG  hr2) zms_RX5_221 rfl rfl ⟨rfl, rfl⟩ ⟨by decide, by decide⟩ (Nat.le_of_ble_eq_true rfl) dX5_sheet_8 ?_
    refine z_if_eq (pc := 11) (tgt := 20) hX dX5_sheet_11 (by decide) (fun hc7 => ?_) (fun hc7 => ?_)
    · replace h := (if_pos hc7).symm.trans h
      refine z_iconst (pc := 20) hX dX5_sheet_20 ?_
      exact z_iret (pc := 21) hX rfl rfl (Prod.mk.inj (Option.some.inj h)).1 (Prod.mk.inj (Option.some.inj h)).2 dX5_sheet_21
    · replace h := (if_neg hc7).symm.trans h
      refine z_iload_n (pc := 14) hX 3 dX5_sheet_14 rfl rfl ?_
      refine z_bipush (pc := 15) hX dX5_sheet_15 (by decide +kernel) ?_
      refine z_icmp_le (pc := 17) (tgt := 22) hX dX5_sheet_17 (by decide) (fun hc6 => ?_) (fun hc6 => ?_)
      · replace h := (if_neg hc6).symm.trans h
        refine z_iload_n (pc := 22) hX 3 dX5_sheet_22 rfl rfl ?_
        refine z_if_ge (pc := 23) (tgt := 29) hX dX5_sheet_23 (by decide) (fun hc5 => ?_) (fun hc5 => ?_)
        · replace h := (if_neg hc5).symm.trans h
          refine z_aload_n (pc := 29) hX 0 dX5_sheet_29 rfl rfl ?_
          refine z_get (pc := 30) (c := 0) (j := 6) (v := .ref (ad 35)) hX rfl zfl_RX5_48 (Nat.le_of_ble_eq_true rfl) (zMain_e (ca := ca) (f := m 0)) rfl dX5_sheet_30 ?_
          refine z_iload_n (pc := 33) hX 1 dX5_sheet_33 rfl rfl ?_
          obtain ⟨hi3, h⟩ := zix_s h
          refine z_aald (pc := 34) (c := 35) hX zCr35 hi3 dX5_sheet_34 ?_
          refine z_iload_n (pc := 35) hX 2 dX5_sheet_35 rfl rfl ?_
          refine z_iload_n (pc := 36) hX 3 dX5_sheet_36 rfl rfl ?_
          obtain ⟨m4, hr4, h⟩ := zcl_s h
          refine z_callVv (pc := 37) (v := .null) (c := (36 + 2 * (a1).toNat)) hX [.int (zI a2), .int (zI a3)] [] (wX4_begin (ca := ca) hG (zSht_k hi3) hr4) rfl zmv_RX5_224 (zSht_lt (zSht_k hi3)) (zSht_e (ca := ca) (f := m (36 + 2 * (a1).toNat)) (zSht_k hi3)) rfl rfl ⟨rfl, rfl⟩ ⟨by decide, by decide⟩ (Nat.le_of_ble_eq_true rfl) dX5_sheet_37 ?_
          refine z_iload_n (pc := 40) hX 3 dX5_sheet_40 rfl rfl ?_
          exact z_iret (pc := 41) hX rfl rfl (Prod.mk.inj (Option.some.inj h)).1 (Prod.mk.inj (Option.some.inj h)).2 dX5_sheet_41
        · replace h := (if_pos hc5).symm.trans h
          refine z_bipush (pc := 26) hX dX5_sheet_26 (by decide +kernel) ?_
          exact z_iret (pc := 28) hX rfl rfl (Prod.mk.inj (Option.some.inj h)).1 (Prod.mk.inj (Option.some.inj h)).2 dX5_sheet_28
      · replace h := (if_pos hc6).symm.trans h
        refine z_iconst (pc := 20) hX dX5_sheet_20 ?_
        exact z_iret (pc := 21) hX rfl rfl (Prod.mk.inj (Option.some.inj h)).1 (Prod.mk.inj (Option.some.inj h)).2 dX5_sheet_21
