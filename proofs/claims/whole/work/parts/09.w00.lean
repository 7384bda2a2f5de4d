def rmX1_edge : Room := { frames := 0, cells := 0, slots := 0, locals := 0 }
set_option maxRecDepth 20000 in
set_option maxHeartbeats 4000000 in
theorem wX1_edge {l : Launch} {D : va_G} {ca : Nat → ClassId} {ad : Nat → Nat} (hG : zGok (zGC D ca ad)) {a0 : Int} {a1 : Int} {r0 : Int} {m : zM} (h : FX1_edge a0 a1 = some r0) : zCt l (zGC D ca ad) yX1_edge cX1_edge 2 (some .int) rmX1_edge [.int (zI a0), .int (zI a1)] m (some (.int (zI r0))) m := by
  unfold FX1_edge at h
  refine z_of (by decide +kernel) hG (Nat.le_of_ble_eq_true rfl) (fun X hX => ?_)
  show zV X 2 m 0 [(0, .int (zI a0)), (1, .int (zI a1))] []
  refine z_iload_n (pc := 0) hX 0 dX1_edge_0 rfl rfl ?_
  refine z_bipush (pc := 1) hX dX1_edge_1 (by decide +kernel) ?_
  refine z_imul (pc := 3) hX dX1_edge_3 ?_
  refine z_iload_n (pc := 4) hX 1 dX1_edge_4 rfl rfl ?_
  refine z_iadd (pc := 5) hX dX1_edge_5 ?_
  refine z_bipush (pc := 6) hX dX1_edge_6 (by decide +kernel) ?_
  refine z_isub (pc := 8) hX dX1_edge_8 ?_
  exact z_iret (pc := 9) hX rfl rfl (Option.some.inj h) rfl dX1_edge_9
def rmX1_removeLast : Room := { frames := 1, cells := 0, slots := 0, locals := 21 }
set_option maxRecDepth 20000 in
set_option maxHeartbeats 4000000 in
theorem wX1_removeLast {l : Launch} {D : va_G} {ca : Nat → ClassId} {ad : Nat → Nat} (hG : zGok (zGC D ca ad)) {o : Nat} (ho : zCat o) {m0 : zM} {m : zM} (h : FX1_removeLast o m = some m0) : zCt l (zGC D ca ad) yX1_removeLast cX1_removeLast 2 none rmX1_removeLast [.ref (ad o)] m none m0 := by
  unfold FX1_removeLast at h
  refine z_of (by decide +kernel) hG (Nat.le_of_ble_eq_true rfl) (fun X hX => ?_)
  show zV X 2 m 0 [(0, .ref (ad o))] []
  refine z_aload_n (pc := 0) hX 0 dX1_removeLast_0 rfl rfl ?_
  refine z_dup (pc := 1) hX dX1_removeLast_1 rfl ?_
  refine z_get (pc := 2) (c := o) (j := 9) (v := .int (zI (m o 9))) hX rfl zfl_RX1_45 (zCat_lt ho) (zCat_e ho) rfl dX1_removeLast_2 ?_
  refine z_iconst (pc := 5) hX dX1_removeLast_5 ?_
  refine z_isub (pc := 6) hX dX1_removeLast_6 ?_
  obtain ⟨m1, hm1, h⟩ := zpf_s h
  refine z_put (pc := 7) (c := o) (j := 9) hX rfl zfl_RX1_45 zfi_1_9 (zCat_lt ho) (zCat_e ho) (Nat.le_of_ble_eq_true rfl) (zCat_p9 ho) hm1 dX1_removeLast_7 ?_
  refine z_aload_n (pc := 10) hX 0 dX1_removeLast_10 rfl rfl ?_
  refine z_get (pc := 11) (c := o) (j := 1) (v := .ref (ad (o + 2))) hX rfl zfl_RX1_15 (zCat_lt ho) (zCat_e ho) rfl dX1_removeLast_11 ?_
  refine z_aload_n (pc := 14) hX 0 dX1_removeLast_14 rfl rfl ?_
  refine z_get (pc := 15) (c := o) (j := 9) (v := .int (zI (m1 o 9))) hX rfl zfl_RX1_45 (zCat_lt ho) (zCat_e ho) rfl dX1_removeLast_15 ?_
  obtain ⟨x2, hx2, hi2, h⟩ := zrd_s h
  refine z_iald (pc := 18) (c := (o + 2)) hX (zCat_a2 ho) hi2 hx2 dX1_removeLast_18 ?_
  refine z_istore_n (pc := 19) (lv' := [(1, .int (zI x2)), (0, .ref (ad o))]) hX dX1_removeLast_19 rfl (by decide) rfl ?_
  refine z_aload_n (pc := 20) hX 1 dX1_removeLast_20 rfl rfl ?_
  refine z_get (pc := 21) (c := o) (j := 6) (v := .ref (ad (o + 7))) hX rfl zfl_RX1_30 (zCat_lt ho) (zCat_e ho) rfl dX1_removeLast_21 ?_
  refine z_iload_n (pc := 24) hX 0 dX1_removeLast_24 rfl rfl ?_
  obtain ⟨x3, hx3, hi3, h⟩ := zrd_s h
  refine z_iald (pc := 25) (c := (o + 7)) hX (zCat_a7 ho) hi3 hx3 dX1_removeLast_25 ?_
  refine z_aload_n (pc := 26) hX 1 dX1_removeLast_26 rfl rfl ?_
  refine z_get (pc := 27) (c := o) (j := 9) (v := .int (zI (m1 o 9))) hX rfl zfl_RX1_45 (zCat_lt ho) (zCat_e ho) rfl dX1_removeLast_27 ?_
  refine z_icmp_ne (pc := 30) (tgt := 67) hX dX1_removeLast_30 (by decide) (fun hc9 => ?_) (fun hc9 => ?_)
  · replace h := (if_neg hc9).symm.trans h
    exact z_vret (pc := 67) hX rfl rfl (Option.some.inj h) dX1_removeLast_67
  · replace h := (if_pos hc9).symm.trans h
    refine z_aload_n (pc := 33) hX 1 dX1_removeLast_33 rfl rfl ?_
    refine z_get (pc := 34) (c := o) (j := 8) (v := .ref (ad (o + 9))) hX rfl zfl_RX1_36 (zCat_lt ho) (zCat_e ho) rfl dX1_removeLast_34 ?_
    refine z_aload_n (pc := 37) hX 1 dX1_removeLast_37 rfl rfl ?_
    refine z_get (pc := 38) (c := o) (j := 5) (v := .ref (ad (o + 6))) hX rfl zfl_RX1_27 (zCat_lt ho) (zCat_e ho) rfl dX1_removeLast_38 ?_
    refine z_iload_n (pc := 41) hX 0 dX1_removeLast_41 rfl rfl ?_
    obtain ⟨x4, hx4, hi4, h⟩ := zrd_s h
    refine z_iald (pc := 42) (c := (o + 6)) hX (zCat_a6 ho) hi4 hx4 dX1_removeLast_42 ?_
    refine z_aload_n (pc := 43) hX 1 dX1_removeLast_43 rfl rfl ?_
    refine z_get (pc := 44) (c := o) (j := 0) (v := .ref (ad (o + 1))) hX rfl zfl_RX1_9 (zCat_lt ho) (zCat_e ho) rfl dX1_removeLast_44 ?_
    refine z_aload_n (pc := 47) hX 1 dX1_removeLast_47 rfl rfl ?_
    refine z_get (pc := 48) (c := o) (j := 9) (v := .int (zI (m1 o 9))) hX rfl zfl_RX1_45 (zCat_lt ho) (zCat_e ho) rfl dX1_removeLast_48 ?_
    obtain ⟨x5, hx5, hi5, h⟩ := zrd_s h
    refine z_iald (pc := 51) (c := (o + 1)) hX (zCat_a1 ho) hi5 hx5 dX1_removeLast_51 ?_
    obtain ⟨r6, hr6, h⟩ := zcl_s h
    refine z_callSr (pc := 52) hX [.int (zI x4), .int (zI x5)] [.ref (ad (o + 9))] (wX1_edge (ca := ca) hG  hr6) zms_RX1_53 rfl rfl ⟨rfl, rfl⟩ ⟨by decide, by decide⟩ (Nat.le_of_ble_eq_true rfl) dX1_removeLast_52 ?_
    refine z_iconst (pc := 55) hX dX1_removeLast_55 ?_
    obtain ⟨m7, hm7, hi7, h⟩ := zwr_s h
    refine z_iast (pc := 56) (c := (o + 9)) hX (zCat_a9 ho) hi7 hm7 dX1_removeLast_56 ?_
    refine z_aload_n (pc := 57) hX 1 dX1_removeLast_57 rfl rfl ?_
    refine z_dup (pc := 58) hX dX1_removeLast_58 rfl ?_
    refine z_get (pc := 59) (c := o) (j := 10) (v := .int (zI (m7 o 10))) hX rfl zfl_RX1_59 (zCat_lt ho) (zCat_e ho) rfl dX1_removeLast_59 ?_
    refine z_iconst (pc := 62) hX dX1_removeLast_62 ?_
    refine z_isub (pc := 63) hX dX1_removeLast_63 ?_
    obtain ⟨m8, hm8, h⟩ := zpf_s h
    refine z_put (pc := 64) (c := o) (j := 10) hX rfl zfl_RX1_59 zfi_1_10 (zCat_lt ho) (zCat_e ho) (Nat.le_of_ble_eq_true rfl) (zCat_p10 ho) hm8 dX1_removeLast_64 ?_
    exact z_vret (pc := 67) hX rfl rfl (Option.some.inj h) dX1_removeLast_67
def rmX1_longestBehind : Room := { frames := 0, cells := 0, slots := 0, locals := 0 }
set_option maxRecDepth 20000 in
set_option maxHeartbeats 4000000 in
theorem wX1_longestBehind_L5 {X : zXT} {l : Launch} {D : va_G} {ca : Nat → ClassId} {ad : Nat → Nat} (hG : zGok (zGC D ca ad)) {o : Nat} (ho : zCat o) {a1 : Int} {a2 : Int}  {r0 : Int} {m : zM}  (hX : zC X l rmX1_longestBehind (zGC D ca ad) (some (.int (zI r0))) m cX1_longestBehind 6 RX1 (some .int)) {k : Int → Int → Option (Int)} (hk : ∀ (v3 : Int) (v4 : Int), k v3 v4 = some r0 → zV X 6 m 58 [(0, .ref (ad o)), (2, .int (zI a2)), (3, .int (zI v3)), (4, .int (zI v4))] []) : ∀ (n : Nat) (v3 : Int) (v4 : Int), FX1_longestBehind_L5 o a1 a2 m k n v3 v4 = some r0 → zV X 6 m 5 [(0, .ref (ad o)), (2, .int (zI a2)), (3, .int (zI v3)), (4, .int (zI v4))] [] := by
  intro n
  induction n with
  | zero => intro v3 v4 h; cases h
  | succ n ih =>
    intro v3 v4 h
    replace h : FX1_longestBehind_L5_B o a1 a2 m k (FX1_longestBehind_L5 o a1 a2 m k n) v3 v4 = some r0 := h
    unfold FX1_longestBehind_L5_B at h
    refine z_iload (pc := 5) hX 3 dX1_longestBehind_5 rfl ?_
    refine z_bipush (pc := 7) hX dX1_longestBehind_7 (by decide +kernel) ?_
    refine z_icmp_ge (pc := 9) (tgt := 58) hX dX1_longestBehind_9 (by decide) (fun hc7 => ?_) (fun hc7 => ?_)
    · replace h := (if_neg hc7).symm.trans h
      exact hk _ _ h
    · replace h := (if_pos hc7).symm.trans h
      refine z_aload_n (pc := 12) hX 0 dX1_longestBehind_12 rfl rfl ?_
      refine z_get (pc := 13) (c := o) (j := 9) (v := .int (zI (m o 9))) hX rfl zfl_RX1_45 (zCat_lt ho) (zCat_e ho) rfl dX1_longestBehind_13 ?_
      refine z_iconst (pc := 16) hX dX1_longestBehind_16 ?_
      refine z_isub (pc := 17) hX dX1_longestBehind_17 ?_
      refine z_aload_n (pc := 18) hX 0 dX1_longestBehind_18 rfl rfl ?_
      refine z_get (pc := 19) (c := o) (j := 2) (v := .ref (ad (o + 3))) hX rfl zfl_RX1_18 (zCat_lt ho) (zCat_e ho) rfl dX1_longestBehind_19 ?_
      refine z_iload_n (pc := 22) hX 2 dX1_longestBehind_22 rfl rfl ?_
      obtain ⟨x1, hx1, hi1, h⟩ := zrd_s h
      refine z_iald (pc := 23) (c := (o + 3)) hX (zCat_a3 ho) hi1 hx1 dX1_longestBehind_23 ?_
      refine z_isub (pc := 24) hX dX1_longestBehind_24 ?_
      refine z_istore (pc := 25) (lv' := [(5, .int (zI (((m o 9) - 1) - x1))), (0, .ref (ad o)), (2, .int (zI a2)), (3, .int (zI v3)), (4, .int (zI v4))]) hX dX1_longestBehind_25 (by decide) rfl ?_
      refine z_iload (pc := 27) hX 0 dX1_longestBehind_27 rfl ?_
      refine z_if_lt (pc := 29) (tgt := 45) hX dX1_longestBehind_29 (by decide) (fun hc6 => ?_) (fun hc6 => ?_)
      · replace h := (if_pos hc6).symm.trans h
        refine z_aload_n (pc := 45) hX 1 dX1_longestBehind_45 rfl rfl ?_
        refine z_get (pc := 46) (c := o) (j := 3) (v := .ref (ad (o + 4))) hX rfl zfl_RX1_21 (zCat_lt ho) (zCat_e ho) rfl dX1_longestBehind_46 ?_
        refine z_iload_n (pc := 49) hX 3 dX1_longestBehind_49 rfl rfl ?_
        obtain ⟨x2, hx2, hi2, h⟩ := zrd_s h
        refine z_iald (pc := 50) (c := (o + 4)) hX (zCat_a4 ho) hi2 hx2 dX1_longestBehind_50 ?_
        refine z_istore_n (pc := 51) (lv' := [(3, .int (zI x2)), (5, .int (zI (((m o 9) - 1) - x1))), (0, .ref (ad o)), (2, .int (zI a2)), (4, .int (zI v4))]) hX dX1_longestBehind_51 rfl (by decide) rfl ?_
        refine z_iinc (pc := 52) (lv' := [(4, .int (zI (v4 + 1))), (3, .int (zI x2)), (5, .int (zI (((m o 9) - 1) - x1))), (0, .ref (ad o)), (2, .int (zI a2))]) hX 4 dX1_longestBehind_52 rfl (by decide) rfl ?_
        refine z_goto (pc := 55) (tgt := 5) hX dX1_longestBehind_55 (by decide) ?_
        refine z_sub [3, 4, 1, 0] rfl ?_
        exact ih _ _ h
      · replace h := (if_neg hc6).symm.trans h
        refine z_aload_n (pc := 32) hX 1 dX1_longestBehind_32 rfl rfl ?_
        refine z_get (pc := 33) (c := o) (j := 0) (v := .ref (ad (o + 1))) hX rfl zfl_RX1_9 (zCat_lt ho) (zCat_e ho) rfl dX1_longestBehind_33 ?_
        refine z_iload (pc := 36) hX 0 dX1_longestBehind_36 rfl ?_
        obtain ⟨x3, hx3, hi3, h⟩ := zrd_s h
        refine z_iald (pc := 38) (c := (o + 1)) hX (zCat_a1 ho) hi3 hx3 dX1_longestBehind_38 ?_
        refine z_iload_n (pc := 39) hX 2 dX1_longestBehind_39 rfl rfl ?_
        refine z_icmp_ne (pc := 40) (tgt := 45) hX dX1_longestBehind_40 (by decide) (fun hc5 => ?_) (fun hc5 => ?_)
        · replace h := (if_neg hc5).symm.trans h
          refine z_aload_n (pc := 45) hX 1 dX1_longestBehind_45 rfl rfl ?_
          refine z_get (pc := 46) (c := o) (j := 3) (v := .ref (ad (o + 4))) hX rfl zfl_RX1_21 (zCat_lt ho) (zCat_e ho) rfl dX1_longestBehind_46 ?_
          refine z_iload_n (pc := 49) hX 3 dX1_longestBehind_49 rfl rfl ?_
          obtain ⟨x4, hx4, hi4, h⟩ := zrd_s h
          refine z_iald (pc := 50) (c := (o + 4)) hX (zCat_a4 ho) hi4 hx4 dX1_longestBehind_50 ?_
          refine z_istore_n (pc := 51) (lv' := [(3, .int (zI x4)), (5, .int (zI (((m o 9) - 1) - x1))), (0, .ref (ad o)), (2, .int (zI a2)), (4, .int (zI v4))]) hX dX1_longestBehind_51 rfl (by decide) rfl ?_
          refine z_iinc (pc := 52) (lv' := [(4, .int (zI (v4 + 1))), (3, .int (zI x4)), (5, .int (zI (((m o 9) - 1) - x1))), (0, .ref (ad o)), (2, .int (zI a2))]) hX 4 dX1_longestBehind_52 rfl (by decide) rfl ?_
          refine z_goto (pc := 55) (tgt := 5) hX dX1_longestBehind_55 (by decide) ?_
          refine z_sub [3, 4, 1, 0] rfl ?_
          exact ih _ _ h
        · replace h := (if_pos hc5).symm.trans h
          refine z_iload_n (pc := 43) hX 3 dX1_longestBehind_43 rfl rfl ?_
          exact z_iret (pc := 44) hX rfl rfl (Option.some.inj h) rfl dX1_longestBehind_44
set_option maxRecDepth 20000 in
set_option maxHeartbeats 4000000 in
theorem wX1_longestBehind {l : Launch} {D : va_G} {ca : Nat → ClassId} {ad : Nat → Nat} (hG : zGok (zGC D ca ad)) {o : Nat} (ho : zCat o) {a1 : Int} {a2 : Int} {r0 : Int} {m : zM} (h : FX1_longestBehind o a1 a2 m = some r0) : zCt l (zGC D ca ad) yX1_longestBehind cX1_longestBehind 6 (some .int) rmX1_longestBehind [.ref (ad o), .int (zI a1), .int (zI a2)] m (some (.int (zI r0))) m := by
  unfold FX1_longestBehind at h
  refine z_of (by decide +kernel) hG (Nat.le_of_ble_eq_true rfl) (fun X hX => ?_)
  show zV X 6 m 0 [(0, .ref (ad o)), (1, .int (zI a1)), (2, .int (zI a2))] []
  refine z_iload_n (pc := 0) hX 1 dX1_longestBehind_0 rfl rfl ?_
  refine z_istore_n (pc := 1) (lv' := [(3, .int (zI a1)), (0, .ref (ad o)), (1, .int (zI a1)), (2, .int (zI a2))]) hX dX1_longestBehind_1 rfl (by decide) rfl ?_
  refine z_iconst (pc := 2) hX dX1_longestBehind_2 ?_
  refine z_istore (pc := 3) (lv' := [(4, .int (zI 0)), (3, .int (zI a1)), (0, .ref (ad o)), (1, .int (zI a1)), (2, .int (zI a2))]) hX dX1_longestBehind_3 (by decide) rfl ?_
  refine z_sub [2, 4, 1, 0] rfl ?_
  refine wX1_longestBehind_L5 hG ho hX (fun y5_3 y5_4 h => ?_) _ _ _ h
  refine z_bipush (pc := 58) hX dX1_longestBehind_58 (by decide +kernel) ?_
  exact z_iret (pc := 60) hX rfl rfl (Option.some.inj h) rfl dX1_longestBehind_60
def rmX1_less : Room := { frames := 0, cells := 0, slots := 0, locals := 0 }
set_option maxRecDepth 20000 in
set_option maxHeartbeats 4000000 in
theorem wX1_less {l : Launch} {D : va_G} {ca : Nat → ClassId} {ad : Nat → Nat} (hG : zGok (zGC D ca ad)) {o : Nat} (ho : zCat o) {a1 : Int} {r0 : Int} {m : zM} (h : FX1_less o a1 m = some r0) : zCt l (zGC D ca ad) yX1_less cX1_less 2 (some .int) rmX1_less [.ref (ad o), .int (zI a1)] m (some (.int (zI r0))) m := by
  unfold FX1_less at h
  refine z_of (by decide +kernel) hG (Nat.le_of_ble_eq_true rfl) (fun X hX => ?_)
  show zV X 2 m 0 [(0, .ref (ad o)), (1, .int (zI a1))] []
  refine z_aload_n (pc := 0) hX 0 dX1_less_0 rfl rfl ?_
  refine z_get (pc := 1) (c := o) (j := 2) (v := .ref (ad (o + 3))) hX rfl zfl_RX1_18 (zCat_lt ho) (zCat_e ho) rfl dX1_less_1 ?_
  refine z_iload_n (pc := 4) hX 1 dX1_less_4 rfl rfl ?_
  obtain ⟨x1, hx1, hi1, h⟩ := zrd_s h
  refine z_iald (pc := 5) (c := (o + 3)) hX (zCat_a3 ho) hi1 hx1 dX1_less_5 ?_
  refine z_aload_n (pc := 6) hX 0 dX1_less_6 rfl rfl ?_
  refine z_get (pc := 7) (c := o) (j := 2) (v := .ref (ad (o + 3))) hX rfl zfl_RX1_18 (zCat_lt ho) (zCat_e ho) rfl dX1_less_7 ?_
  refine z_aload_n (pc := 10) hX 0 dX1_less_10 rfl rfl ?_
  refine z_get (pc := 11) (c := o) (j := 3) (v := .ref (ad (o + 4))) hX rfl zfl_RX1_21 (zCat_lt ho) (zCat_e ho) rfl dX1_less_11 ?_
  refine z_iload_n (pc := 14) hX 1 dX1_less_14 rfl rfl ?_
  obtain ⟨x2, hx2, hi2, h⟩ := zrd_s h
  refine z_iald (pc := 15) (c := (o + 4)) hX (zCat_a4 ho) hi2 hx2 dX1_less_15 ?_
  obtain ⟨x3, hx3, hi3, h⟩ := zrd_s h
  refine z_iald (pc := 16) (c := (o + 3)) hX (zCat_a3 ho) hi3 hx3 dX1_less_16 ?_
  refine z_isub (pc := 17) hX dX1_less_17 ?_
  exact z_iret (pc := 18) hX rfl rfl (Option.some.inj h) rfl dX1_less_18
def rmX1_create : Room := { frames := 1, cells := 0, slots := 0, locals := 25 }
set_option maxRecDepth 20000 in
set_option maxHeartbeats 4000000 in
theorem wX1_create {l : Launch} {D : va_G} {ca : Nat → ClassId} {ad : Nat → Nat} (hG : zGok (zGC D ca ad)) {o : Nat} (ho : zCat o) {a1 : Int} {a2 : Int} {r0 : Int} {m0 : zM} {m : zM} (h : FX1_create o a1 a2 m = some (r0, m0)) : zCt l (zGC D ca ad) yX1_create cX1_create 5 (some .int) rmX1_create [.ref (ad o), .int (zI a1), .int (zI a2)] m (some (.int (zI r0))) m0 := by
  unfold FX1_create at h
  refine z_of (by decide +kernel) hG (Nat.le_of_ble_eq_true rfl) (fun X hX => ?_)
  show zV X 5 m 0 [(0, .ref (ad o)), (1, .int (zI a1)), (2, .int (zI a2))] []
  refine z_aload_n (pc := 0) hX 0 dX1_create_0 rfl rfl ?_
  refine z_get (pc := 1) (c := o) (j := 10) (v := .int (zI (m o 10))) hX rfl zfl_RX1_59 (zCat_lt ho) (zCat_e ho) rfl dX1_create_1 ?_
  refine z_istore_n (pc := 4) (lv' := [(3, .int (zI (m o 10))), (0, .ref (ad o)), (1, .int (zI a1)), (2, .int (zI a2))]) hX dX1_create_4 rfl (by decide) rfl ?_
  refine z_aload_n (pc := 5) hX 1 dX1_create_5 rfl rfl ?_
  refine z_get (pc := 6) (c := o) (j := 2) (v := .ref (ad (o + 3))) hX rfl zfl_RX1_18 (zCat_lt ho) (zCat_e ho) rfl dX1_create_6 ?_
  refine z_iload_n (pc := 9) hX 0 dX1_create_9 rfl rfl ?_
  refine z_aload_n (pc := 10) hX 1 dX1_create_10 rfl rfl ?_
  refine z_get (pc := 11) (c := o) (j := 2) (v := .ref (ad (o + 3))) hX rfl zfl_RX1_18 (zCat_lt ho) (zCat_e ho) rfl dX1_create_11 ?_
  refine z_iload_n (pc := 14) hX 2 dX1_create_14 rfl rfl ?_
  obtain ⟨x1, hx1, hi1, h⟩ := zrd_s h
  refine z_iald (pc := 15) (c := (o + 3)) hX (zCat_a3 ho) hi1 hx1 dX1_create_15 ?_
  refine z_iconst (pc := 16) hX dX1_create_16 ?_
  refine z_iadd (pc := 17) hX dX1_create_17 ?_
  obtain ⟨m2, hm2, hi2, h⟩ := zwr_s h
  refine z_iast (pc := 18) (c := (o + 3)) hX (zCat_a3 ho) hi2 hm2 dX1_create_18 ?_
  refine z_aload_n (pc := 19) hX 1 dX1_create_19 rfl rfl ?_
  refine z_get (pc := 20) (c := o) (j := 5) (v := .ref (ad (o + 6))) hX rfl zfl_RX1_27 (zCat_lt ho) (zCat_e ho) rfl dX1_create_20 ?_
  refine z_iload_n (pc := 23) hX 0 dX1_create_23 rfl rfl ?_
  refine z_iload_n (pc := 24) hX 2 dX1_create_24 rfl rfl ?_
  obtain ⟨m3, hm3, hi3, h⟩ := zwr_s h
  refine z_iast (pc := 25) (c := (o + 6)) hX (zCat_a6 ho) hi3 hm3 dX1_create_25 ?_
  refine z_aload_n (pc := 26) hX 1 dX1_create_26 rfl rfl ?_
  refine z_get (pc := 27) (c := o) (j := 6) (v := .ref (ad (o + 7))) hX rfl zfl_RX1_30 (zCat_lt ho) (zCat_e ho) rfl dX1_create_27 ?_
  refine z_iload_n (pc := 30) hX 0 dX1_create_30 rfl rfl ?_
  refine z_aload_n (pc := 31) hX 1 dX1_create_31 rfl rfl ?_
  refine z_get (pc := 32) (c := o) (j := 9) (v := .int (zI (m3 o 9))) hX rfl zfl_RX1_45 (zCat_lt ho) (zCat_e ho) rfl dX1_create_32 ?_
  obtain ⟨m4, hm4, hi4, h⟩ := zwr_s h
  refine z_iast (pc := 35) (c := (o + 7)) hX (zCat_a7 ho) hi4 hm4 dX1_create_35 ?_
  refine z_iload_n (pc := 36) hX 2 dX1_create_36 rfl rfl ?_
  refine z_bipush (pc := 37) hX dX1_create_37 (by decide +kernel) ?_
  obtain ⟨j67, hj67, h⟩ := zjn_s h (fun (j : Int → Option (Int × zM)) => ∀ (s0 : Int), j s0 = some (r0, m0) → zV X 5 m4 67 [(0, .ref (ad o)), (1, .int (zI a1)), (2, .int (zI a2)), (3, .int (zI (m o 10)))] [.int (zI s0)]) (fun s0 h => by
      refine z_istore (pc := 67) (lv' := [(4, .int (zI s0)), (0, .ref (ad o)), (1, .int (zI a1)), (2, .int (zI a2)), (3, .int (zI (m o 10)))]) hX dX1_create_67 (by decide) rfl ?_
      refine z_aload_n (pc := 69) hX 1 dX1_create_69 rfl rfl ?_
      refine z_get (pc := 70) (c := o) (j := 3) (v := .ref (ad (o + 4))) hX rfl zfl_RX1_21 (zCat_lt ho) (zCat_e ho) rfl dX1_create_70 ?_
      refine z_iload_n (pc := 73) hX 4 dX1_create_73 rfl rfl ?_
      refine z_iload (pc := 74) hX 0 dX1_create_74 rfl ?_
      obtain ⟨m5, hm5, hi5, h⟩ := zwr_s h
      refine z_iast (pc := 76) (c := (o + 4)) hX (zCat_a4 ho) hi5 hm5 dX1_create_76 ?_
      refine z_aload_n (pc := 77) hX 1 dX1_create_77 rfl rfl ?_
      refine z_get (pc := 78) (c := o) (j := 7) (v := .ref (ad (o + 8))) hX rfl zfl_RX1_33 (zCat_lt ho) (zCat_e ho) rfl dX1_create_78 ?_
      refine z_iload_n (pc := 81) hX 4 dX1_create_81 rfl rfl ?_
      refine z_aload_n (pc := 82) hX 1 dX1_create_82 rfl rfl ?_
      refine z_get (pc := 83) (c := o) (j := 7) (v := .ref (ad (o + 8))) hX rfl zfl_RX1_33 (zCat_lt ho) (zCat_e ho) rfl dX1_create_83 ?_
      refine z_iload (pc := 86) hX 0 dX1_create_86 rfl ?_
      obtain ⟨x6, hx6, hi6, h⟩ := zrd_s h
      refine z_iald (pc := 88) (c := (o + 8)) hX (zCat_a8 ho) hi6 hx6 dX1_create_88 ?_
      refine z_iconst (pc := 89) hX dX1_create_89 ?_
      refine z_iadd (pc := 90) hX dX1_create_90 ?_
      obtain ⟨m7, hm7, hi7, h⟩ := zwr_s h
      refine z_iast (pc := 91) (c := (o + 8)) hX (zCat_a8 ho) hi7 hm7 dX1_create_91 ?_
      refine z_aload_n (pc := 92) hX 1 dX1_create_92 rfl rfl ?_
      refine z_get (pc := 93) (c := o) (j := 4) (v := .ref (ad (o + 5))) hX rfl zfl_RX1_24 (zCat_lt ho) (zCat_e ho) rfl dX1_create_93 ?_
      refine z_iload_n (pc := 96) hX 4 dX1_create_96 rfl rfl ?_
      refine z_aload_n (pc := 97) hX 1 dX1_create_97 rfl rfl ?_
      refine z_iload_n (pc := 98) hX 4 dX1_create_98 rfl rfl ?_
      obtain ⟨r8, hr8, h⟩ := zcl_s h
      refine z_callVr (pc := 99) (c := o) hX [.int (zI (m o 10))] [.int (zI (m o 10)), .ref (ad (o + 5))] (wX1_less (ca := ca) hG ho hr8) rfl zmv_RX1_62 (zCat_lt ho) (zCat_e ho) rfl rfl ⟨rfl, rfl⟩ ⟨by decide, by decide⟩ (Nat.le_of_ble_eq_true rfl) dX1_create_99 ?_
      refine z_aload_n (pc := 102) hX 1 dX1_create_102 rfl rfl ?_
      refine z_iload (pc := 103) hX 0 dX1_create_103 rfl ?_
      obtain ⟨r9, hr9, h⟩ := zcl_s h
      refine z_callVr (pc := 105) (c := o) hX [.int (zI s0)] [.int (zI r8), .int (zI (m o 10)), .ref (ad (o + 5))] (wX1_less (ca := ca) hG ho hr9) rfl zmv_RX1_62 (zCat_lt ho) (zCat_e ho) rfl rfl ⟨rfl, rfl⟩ ⟨by decide, by decide⟩ (Nat.le_of_ble_eq_true rfl) dX1_create_105 ?_
      obtain ⟨j123, hj123, h⟩ := zjn_s h (fun (j : Int → Option (Int × zM)) => ∀ (s0 : Int), j s0 = some (r0, m0) → zV X 5 m7 123 [(0, .ref (ad o)), (1, .int (zI a1)), (2, .int (zI a2)), (3, .int (zI (m o 10)))] [.int (zI s0), .int (zI (m o 10)), .ref (ad (o + 5))]) (fun s0 h => by
          obtain ⟨m10, hm10, hi10, h⟩ := zwr_s h
          refine z_iast (pc := 123) (c := (o + 5)) hX (zCat_a5 ho) hi10 hm10 dX1_create_123 ?_
          refine z_aload_n (pc := 124) hX 0 dX1_create_124 rfl rfl ?_
          refine z_get (pc := 125) (c := o) (j := 8) (v := .ref (ad (o + 9))) hX rfl zfl_RX1_36 (zCat_lt ho) (zCat_e ho) rfl dX1_create_125 ?_
          refine z_iload_n (pc := 128) hX 1 dX1_create_128 rfl rfl ?_
          refine z_iload_n (pc := 129) hX 2 dX1_create_129 rfl rfl ?_
          obtain ⟨r11, hr11, h⟩ := zcl_s h
          refine z_callSr (pc := 130) hX [.int (zI a1), .int (zI a2)] [.ref (ad (o + 9))] (wX1_edge (ca := ca) hG  hr11) zms_RX1_53 rfl rfl ⟨rfl, rfl⟩ ⟨by decide, by decide⟩ (Nat.le_of_ble_eq_true rfl) dX1_create_130 ?_
          refine z_iload_n (pc := 133) hX 3 dX1_create_133 rfl rfl ?_
          obtain ⟨m12, hm12, hi12, h⟩ := zwr_s h
          refine z_iast (pc := 134) (c := (o + 9)) hX (zCat_a9 ho) hi12 hm12 dX1_create_134 ?_
          refine z_aload_n (pc := 135) hX 0 dX1_create_135 rfl rfl ?_
          refine z_dup (pc := 136) hX dX1_create_136 rfl ?_
          refine z_get (pc := 137) (c := o) (j := 10) (v := .int (zI (m12 o 10))) hX rfl zfl_RX1_59 (zCat_lt ho) (zCat_e ho) rfl dX1_create_137 ?_
          refine z_iconst (pc := 140) hX dX1_create_140 ?_
          refine z_iadd (pc := 141) hX dX1_create_141 ?_
          obtain ⟨m13, hm13, h⟩ := zpf_s h
          refine z_put (pc := 142) (c := o) (j := 10) hX rfl zfl_RX1_59 zfi_1_10 (zCat_lt ho) (zCat_e ho) (Nat.le_of_ble_eq_true rfl) (zCat_p10 ho) hm13 dX1_create_142 ?_
          refine z_iload_n (pc := 145) hX 3 dX1_create_145 rfl rfl ?_
          exact z_iret (pc := 146) hX rfl rfl (Prod.mk.inj (Option.some.inj h)).1 (Prod.mk.inj (Option.some.inj h)).2 dX1_create_146
          )
      refine z_icmp_ne (pc := 108) (tgt := 121) hX dX1_create_108 (by decide) (fun hc15 => ?_) (fun hc15 => ?_)
      · replace h := (if_neg hc15).symm.trans h
        refine z_iload (pc := 121) hX 0 dX1_create_121 rfl ?_
        refine z_sub [1, 2, 3, 4] rfl ?_
        exact hj123 _ h
      · replace h := (if_pos hc15).symm.trans h
        refine z_aload_n (pc := 111) hX 1 dX1_create_111 rfl rfl ?_
        refine z_get (pc := 112) (c := o) (j := 4) (v := .ref (ad (o + 5))) hX rfl zfl_RX1_24 (zCat_lt ho) (zCat_e ho) rfl dX1_create_112 ?_
        refine z_iload (pc := 115) hX 0 dX1_create_115 rfl ?_
        obtain ⟨x14, hx14, hi14, h⟩ := zrd_s h
        refine z_iald (pc := 117) (c := (o + 5)) hX (zCat_a5 ho) hi14 hx14 dX1_create_117 ?_
        refine z_goto (pc := 118) (tgt := 123) hX dX1_create_118 (by decide) ?_
        refine z_sub [1, 2, 3, 4] rfl ?_
        exact hj123 _ h
      )
  refine z_icmp_ne (pc := 39) (tgt := 47) hX dX1_create_39 (by decide) (fun hc20 => ?_) (fun hc20 => ?_)
  · replace h := (if_neg hc20).symm.trans h
    refine z_aload_n (pc := 47) hX 1 dX1_create_47 rfl rfl ?_
    refine z_get (pc := 48) (c := o) (j := 8) (v := .ref (ad (o + 9))) hX rfl zfl_RX1_36 (zCat_lt ho) (zCat_e ho) rfl dX1_create_48 ?_
    refine z_aload_n (pc := 51) hX 1 dX1_create_51 rfl rfl ?_
    refine z_aload_n (pc := 52) hX 1 dX1_create_52 rfl rfl ?_
    refine z_get (pc := 53) (c := o) (j := 3) (v := .ref (ad (o + 4))) hX rfl zfl_RX1_21 (zCat_lt ho) (zCat_e ho) rfl dX1_create_53 ?_
    refine z_iload_n (pc := 56) hX 2 dX1_create_56 rfl rfl ?_
    obtain ⟨x16, hx16, hi16, h⟩ := zrd_s h
    refine z_iald (pc := 57) (c := (o + 4)) hX (zCat_a4 ho) hi16 hx16 dX1_create_57 ?_
    refine z_iload_n (pc := 58) hX 3 dX1_create_58 rfl rfl ?_
    obtain ⟨r17, hr17, h⟩ := zcl_s h
    refine z_callVr (pc := 59) (c := o) hX [.int (zI x16), .int (zI a2)] [.ref (ad (o + 9))] (wX1_longestBehind (ca := ca) hG ho hr17) rfl zmv_RX1_49 (zCat_lt ho) (zCat_e ho) rfl rfl ⟨rfl, rfl⟩ ⟨by decide, by decide⟩ (Nat.le_of_ble_eq_true rfl) dX1_create_59 ?_
    refine z_iload_n (pc := 62) hX 3 dX1_create_62 rfl rfl ?_
    obtain ⟨r18, hr18, h⟩ := zcl_s h
    refine z_callSr (pc := 63) hX [.int (zI r17), .int (zI a2)] [.ref (ad (o + 9))] (wX1_edge (ca := ca) hG  hr18) zms_RX1_53 rfl rfl ⟨rfl, rfl⟩ ⟨by decide, by decide⟩ (Nat.le_of_ble_eq_true rfl) dX1_create_63 ?_
    obtain ⟨x19, hx19, hi19, h⟩ := zrd_s h
    refine z_iald (pc := 66) (c := (o + 9)) hX (zCat_a9 ho) hi19 hx19 dX1_create_66 ?_
    refine z_sub [1, 2, 3, 0] rfl ?_
    exact hj67 _ h
  · replace h := (if_pos hc20).symm.trans h
    refine z_bipush (pc := 42) hX dX1_create_42 (by decide +kernel) ?_
    refine z_goto (pc := 44) (tgt := 67) hX dX1_create_44 (by decide) ?_
    refine z_sub [1, 2, 3, 0] rfl ?_
    exact hj67 _ h
def rmX1_add : Room := { frames := 2, cells := 0, slots := 0, locals := 49 }
set_option maxRecDepth 20000 in
set_option maxHeartbeats 4000000 in
theorem wX1_add {l : Launch} {D : va_G} {ca : Nat → ClassId} {ad : Nat → Nat} (hG : zGok (zGC D ca ad)) {o : Nat} (ho : zCat o) {a1 : Int} {r0 : Int} {m0 : zM} {m : zM} (h : FX1_add o a1 m = some (r0, m0)) : zCt l (zGC D ca ad) yX1_add cX1_add 4 (some .int) rmX1_add [.ref (ad o), .int (zI a1)] m (some (.int (zI r0))) m0 := by
  unfold FX1_add at h
  refine z_of (by decide +kernel) hG (Nat.le_of_ble_eq_true rfl) (fun X hX => ?_)
  show zV X 4 m 0 [(0, .ref (ad o)), (1, .int (zI a1))] []
  refine z_aload_n (pc := 0) hX 0 dX1_add_0 rfl rfl ?_
  refine z_get (pc := 1) (c := o) (j := 0) (v := .ref (ad (o + 1))) hX rfl zfl_RX1_9 (zCat_lt ho) (zCat_e ho) rfl dX1_add_1 ?_
  refine z_aload_n (pc := 4) hX 0 dX1_add_4 rfl rfl ?_
  refine z_get (pc := 5) (c := o) (j := 9) (v := .int (zI (m o 9))) hX rfl zfl_RX1_45 (zCat_lt ho) (zCat_e ho) rfl dX1_add_5 ?_
  refine z_iload_n (pc := 8) hX 1 dX1_add_8 rfl rfl ?_
  obtain ⟨m1, hm1, hi1, h⟩ := zwr_s h
  refine z_iast (pc := 9) (c := (o + 1)) hX (zCat_a1 ho) hi1 hm1 dX1_add_9 ?_
  refine z_aload_n (pc := 10) hX 0 dX1_add_10 rfl rfl ?_
  refine z_aload_n (pc := 11) hX 0 dX1_add_11 rfl rfl ?_
  refine z_get (pc := 12) (c := o) (j := 9) (v := .int (zI (m1 o 9))) hX rfl zfl_RX1_45 (zCat_lt ho) (zCat_e ho) rfl dX1_add_12 ?_
  obtain ⟨j34, hj34, h⟩ := zjn_s h (fun (j : Int → Option (Int × zM)) => ∀ (s0 : Int), j s0 = some (r0, m0) → zV X 4 m1 34 [(0, .ref (ad o)), (1, .int (zI a1))] [.int (zI s0), .ref (ad o)]) (fun s0 h => by
      refine z_iload_n (pc := 34) hX 1 dX1_add_34 rfl rfl ?_
      obtain ⟨r2, hr2, h⟩ := zcl_s h
      refine z_callVr (pc := 35) (c := o) hX [.int (zI s0), .int (zI a1)] [] (wX1_longestBehind (ca := ca) hG ho hr2) rfl zmv_RX1_49 (zCat_lt ho) (zCat_e ho) rfl rfl ⟨rfl, rfl⟩ ⟨by decide, by decide⟩ (Nat.le_of_ble_eq_true rfl) dX1_add_35 ?_
      refine z_istore_n (pc := 38) (lv' := [(2, .int (zI r2)), (0, .ref (ad o)), (1, .int (zI a1))]) hX dX1_add_38 rfl (by decide) rfl ?_
      refine z_aload_n (pc := 39) hX 1 dX1_add_39 rfl rfl ?_
      refine z_get (pc := 40) (c := o) (j := 8) (v := .ref (ad (o + 9))) hX rfl zfl_RX1_36 (zCat_lt ho) (zCat_e ho) rfl dX1_add_40 ?_
      refine z_iload_n (pc := 43) hX 0 dX1_add_43 rfl rfl ?_
      refine z_iload_n (pc := 44) hX 2 dX1_add_44 rfl rfl ?_
      obtain ⟨r3, hr3, h⟩ := zcl_s h
      refine z_callSr (pc := 45) hX [.int (zI r2), .int (zI a1)] [.ref (ad (o + 9))] (wX1_edge (ca := ca) hG  hr3) zms_RX1_53 rfl rfl ⟨rfl, rfl⟩ ⟨by decide, by decide⟩ (Nat.le_of_ble_eq_true rfl) dX1_add_45 ?_
      obtain ⟨x4, hx4, hi4, h⟩ := zrd_s h
      refine z_iald (pc := 48) (c := (o + 9)) hX (zCat_a9 ho) hi4 hx4 dX1_add_48 ?_
      refine z_istore_n (pc := 49) (lv' := [(3, .int (zI x4)), (2, .int (zI r2)), (0, .ref (ad o)), (1, .int (zI a1))]) hX dX1_add_49 rfl (by decide) rfl ?_
      refine z_iload_n (pc := 50) hX 0 dX1_add_50 rfl rfl ?_
      refine z_iconst (pc := 51) hX dX1_add_51 ?_
      obtain ⟨j62, hj62, h⟩ := zjn_s h (fun (j : Int → zM → Option (Int × zM)) => ∀ (u3 : Int) (m_ : zM), j u3 m_ = some (r0, m0) → zV X 4 m_ 62 [(0, .ref (ad o)), (3, .int (zI u3))] []) (fun u3 m_ h => by
          refine z_aload_n (pc := 62) hX 0 dX1_add_62 rfl rfl ?_
          refine z_get (pc := 63) (c := o) (j := 1) (v := .ref (ad (o + 2))) hX rfl zfl_RX1_15 (zCat_lt ho) (zCat_e ho) rfl dX1_add_63 ?_
          refine z_aload_n (pc := 66) hX 0 dX1_add_66 rfl rfl ?_
          refine z_get (pc := 67) (c := o) (j := 9) (v := .int (zI (m_ o 9))) hX rfl zfl_RX1_45 (zCat_lt ho) (zCat_e ho) rfl dX1_add_67 ?_
          refine z_iload_n (pc := 70) hX 1 dX1_add_70 rfl rfl ?_
          obtain ⟨m5, hm5, hi5, h⟩ := zwr_s h
          refine z_iast (pc := 71) (c := (o + 2)) hX (zCat_a2 ho) hi5 hm5 dX1_add_71 ?_
          refine z_aload_n (pc := 72) hX 0 dX1_add_72 rfl rfl ?_
          refine z_dup (pc := 73) hX dX1_add_73 rfl ?_
          refine z_get (pc := 74) (c := o) (j := 9) (v := .int (zI (m5 o 9))) hX rfl zfl_RX1_45 (zCat_lt ho) (zCat_e ho) rfl dX1_add_74 ?_
          refine z_iconst (pc := 77) hX dX1_add_77 ?_
          refine z_iadd (pc := 78) hX dX1_add_78 ?_
          obtain ⟨m6, hm6, h⟩ := zpf_s h
          refine z_put (pc := 79) (c := o) (j := 9) hX rfl zfl_RX1_45 zfi_1_9 (zCat_lt ho) (zCat_e ho) (Nat.le_of_ble_eq_true rfl) (zCat_p9 ho) hm6 dX1_add_79 ?_
          refine z_aload_n (pc := 82) hX 0 dX1_add_82 rfl rfl ?_
          refine z_get (pc := 83) (c := o) (j := 2) (v := .ref (ad (o + 3))) hX rfl zfl_RX1_18 (zCat_lt ho) (zCat_e ho) rfl dX1_add_83 ?_
          refine z_iload_n (pc := 86) hX 1 dX1_add_86 rfl rfl ?_
          obtain ⟨x7, hx7, hi7, h⟩ := zrd_s h
          refine z_iald (pc := 87) (c := (o + 3)) hX (zCat_a3 ho) hi7 hx7 dX1_add_87 ?_
          exact z_iret (pc := 88) hX rfl rfl (Prod.mk.inj (Option.some.inj h)).1 (Prod.mk.inj (Option.some.inj h)).2 dX1_add_88
          )
      refine z_icmp_ne (pc := 52) (tgt := 62) hX dX1_add_52 (by decide) (fun hc9 => ?_) (fun hc9 => ?_)
      · replace h := (if_neg hc9).symm.trans h
        refine z_sub [2, 0] rfl ?_
        exact hj62 _ _ h
      · replace h := (if_pos hc9).symm.trans h
        refine z_aload_n (pc := 55) hX 2 dX1_add_55 rfl rfl ?_
        refine z_iload_n (pc := 56) hX 1 dX1_add_56 rfl rfl ?_
        refine z_iload_n (pc := 57) hX 3 dX1_add_57 rfl rfl ?_
        obtain ⟨r8, m8, hr8, h⟩ := zcl2_s h
        refine z_callVr (pc := 58) (c := o) hX [.int (zI r2), .int (zI a1)] [] (wX1_create (ca := ca) hG ho hr8) rfl zmv_RX1_56 (zCat_lt ho) (zCat_e ho) rfl rfl ⟨rfl, rfl⟩ ⟨by decide, by decide⟩ (Nat.le_of_ble_eq_true rfl) dX1_add_58 ?_
        refine z_istore_n (pc := 61) (lv' := [(3, .int (zI r8)), (2, .int (zI r2)), (0, .ref (ad o)), (1, .int (zI a1))]) hX dX1_add_61 rfl (by decide) rfl ?_
        refine z_sub [2, 0] rfl ?_
        exact hj62 _ _ h
      )
  refine z_if_ne (pc := 15) (tgt := 23) hX dX1_add_15 (by decide) (fun hc11 => ?_) (fun hc11 => ?_)
  · replace h := (if_neg hc11).symm.trans h
    refine z_aload_n (pc := 23) hX 0 dX1_add_23 rfl rfl ?_
    refine z_get (pc := 24) (c := o) (j := 1) (v := .ref (ad (o + 2))) hX rfl zfl_RX1_15 (zCat_lt ho) (zCat_e ho) rfl dX1_add_24 ?_
    refine z_aload_n (pc := 27) hX 0 dX1_add_27 rfl rfl ?_
    refine z_get (pc := 28) (c := o) (j := 9) (v := .int (zI (m1 o 9))) hX rfl zfl_RX1_45 (zCat_lt ho) (zCat_e ho) rfl dX1_add_28 ?_
    refine z_iconst (pc := 31) hX dX1_add_31 ?_
    refine z_isub (pc := 32) hX dX1_add_32 ?_
    obtain ⟨x10, hx10, hi10, h⟩ := zrd_s h
    refine z_iald (pc := 33) (c := (o + 2)) hX (zCat_a2 ho) hi10 hx10 dX1_add_33 ?_
    exact hj34 _ h
  · replace h := (if_pos hc11).symm.trans h
    refine z_bipush (pc := 18) hX dX1_add_18 (by decide +kernel) ?_
    refine z_goto (pc := 20) (tgt := 34) hX dX1_add_20 (by decide) ?_
    exact hj34 _ h
