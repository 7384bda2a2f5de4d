def rmX6_push : Room := { frames := 0, cells := 0, slots := 0, locals := 0 }
set_option maxRecDepth 20000 in
set_option maxHeartbeats 4000000 in
theorem wX6_push {l : Launch} {D : va_G} {ca : Nat → ClassId} {ad : Nat → Nat} (hG : zGok (zGM D ca ad)) {a1 : Int} {m0 : zM} {m : zM} (h : FX6_push a1 m = some m0) : zCt l (zGM D ca ad) yX6_push cX6_push 2 none rmX6_push [.ref (ad 0), .int (zI a1)] m none m0 := by
  unfold FX6_push at h
  refine z_of (plainFor_of_name (by decide +kernel)) hG (Nat.le_of_ble_eq_true rfl) (fun X hX => ?_)
  show zV X 2 m 0 [(0, .ref (ad 0)), (1, .int (zI a1))] []
  refine z_aload_n (pc := 0) hX 0 dX6_push_0 rfl rfl ?_
  refine z_get (pc := 1) (c := 0) (j := 1) (v := .ref (ad 1)) hX rfl zfl_RX6_7 (Nat.le_of_ble_eq_true rfl) (zMod_e (ca := ca) (f := m 0)) rfl dX6_push_1 ?_
  refine z_aload_n (pc := 4) hX 0 dX6_push_4 rfl rfl ?_
  refine z_get (pc := 5) (c := 0) (j := 0) (v := .int (zI (m 0 0))) hX rfl zfl_RX6_69 (Nat.le_of_ble_eq_true rfl) (zMod_e (ca := ca) (f := m 0)) rfl dX6_push_5 ?_
  refine z_iload_n (pc := 8) hX 1 dX6_push_8 rfl rfl ?_
  obtain ⟨m1, hm1, hi1, h⟩ := zwr_s h
  refine z_iast (pc := 9) (c := 1) hX zMi1 hi1 hm1 dX6_push_9 ?_
  refine z_aload_n (pc := 10) hX 0 dX6_push_10 rfl rfl ?_
  refine z_dup (pc := 11) hX dX6_push_11 rfl ?_
  refine z_get (pc := 12) (c := 0) (j := 0) (v := .int (zI (m1 0 0))) hX rfl zfl_RX6_69 (Nat.le_of_ble_eq_true rfl) (zMod_e (ca := ca) (f := m1 0)) rfl dX6_push_12 ?_
  refine z_iconst (pc := 15) hX dX6_push_15 ?_
  refine z_iadd (pc := 16) hX dX6_push_16 ?_
  obtain ⟨m2, hm2, h⟩ := zpf_s h
  refine z_put (pc := 17) (c := 0) (j := 0) hX rfl zfl_RX6_69 zfi_6_0 (Nat.le_of_ble_eq_true rfl) (zMod_e (ca := ca) (f := m1 0)) (Nat.le_of_ble_eq_true rfl) (zMod_p0 (ca := ca)) hm2 dX6_push_17 ?_
  exact z_vret (pc := 20) hX rfl rfl (Option.some.inj h) dX6_push_20
def rmX6_more : Room := { frames := 3, cells := 0, slots := 0, locals := 72 }
set_option maxRecDepth 20000 in
set_option maxHeartbeats 4000000 in
theorem wX6_more_L11 {X : zXT} {l : Launch} {D : va_G} {ca : Nat → ClassId} {ad : Nat → Nat} (hG : zGok (zGM D ca ad)) {a1 : Int} {a2 : Int}  {r0 : Int} {m0 : zM} {k3 : Int} (hX : zC X l rmX6_more (zGM D ca ad) (some (.int (zI r0))) m0 cX6_more 6 RX6 (some .int)) {k : Int → Int → zM → Option (Int × zM)} (hk : ∀ (v4 : Int) (v5 : Int) (m_ : zM), k v4 v5 m_ = some (r0, m0) → zV X 6 m_ 64 [(0, .ref (ad 0)), (1, .int (zI a1)), (2, .int (zI a2)), (3, .int (zI k3)), (4, .int (zI v4)), (5, .int (zI v5))] []) : ∀ (n : Nat) (v4 : Int) (v5 : Int) (m_ : zM), FX6_more_L11 a1 a2 k3 k n v4 v5 m_ = some (r0, m0) → zV X 6 m_ 11 [(0, .ref (ad 0)), (1, .int (zI a1)), (2, .int (zI a2)), (3, .int (zI k3)), (4, .int (zI v4)), (5, .int (zI v5))] [] := by
  intro n
  induction n with
  | zero => intro v4 v5 m_ h; cases h
  | succ n ih =>
    intro v4 v5 m_ h
    replace h : FX6_more_L11_B a1 a2 k3 k (FX6_more_L11 a1 a2 k3 k n) v4 v5 m_ = some (r0, m0) := h
    unfold FX6_more_L11_B at h
    refine z_iload (pc := 11) hX 5 dX6_more_11 rfl ?_
    refine z_iload_n (pc := 13) hX 1 dX6_more_13 rfl rfl ?_
    refine z_icmp_ge (pc := 14) (tgt := 64) hX dX6_more_14 (by decide) (fun hc7 => ?_) (fun hc7 => ?_)
    · replace h := (if_neg hc7).symm.trans h
      exact hk _ _ _ h
    · replace h := (if_pos hc7).symm.trans h
      refine z_aload_n (pc := 17) hX 0 dX6_more_17 rfl rfl ?_
      refine z_iload_n (pc := 18) hX 2 dX6_more_18 rfl rfl ?_
      refine z_iload_n (pc := 19) hX 1 dX6_more_19 rfl rfl ?_
      refine z_iconst (pc := 20) hX dX6_more_20 ?_
      refine z_isub (pc := 21) hX dX6_more_21 ?_
      refine z_iload (pc := 22) hX 5 dX6_more_22 rfl ?_
      refine z_isub (pc := 24) hX dX6_more_24 ?_
      obtain ⟨r1, hr1, h⟩ := zcl_s h
      refine z_callSr (pc := 25) hX [.int (zI ((a1 - 1) - v5))] [.int (zI a2), .ref (ad 0)] (wX6_power (ca := ca) hG  hr1) zms_RX6_142 rfl rfl ⟨rfl, rfl⟩ ⟨by decide, by decide⟩ (Nat.le_of_ble_eq_true rfl) dX6_more_25 ?_
      obtain ⟨g2, h⟩ := zgd_s h
      refine z_idiv (pc := 28) hX g2 dX6_more_28 ?_
      refine z_bipush (pc := 29) hX dX6_more_29 (by decide +kernel) ?_
      obtain ⟨g3, h⟩ := zgd_s h
      refine z_irem (pc := 31) hX g3 dX6_more_31 ?_
      obtain ⟨m4, hr4, h⟩ := zcl_s h
      refine z_callVv (pc := 32) (v := .null) (c := 0) hX [.int (zI ((a2 / r1) % 6))] [] (wX6_push (ca := ca) hG  hr4) rfl zmv_RX6_108 (Nat.le_of_ble_eq_true rfl) (zMod_e (ca := ca) (f := m_ 0)) rfl rfl ⟨rfl, rfl⟩ ⟨by decide, by decide⟩ (Nat.le_of_ble_eq_true rfl) dX6_more_32 ?_
      refine z_iload (pc := 35) hX 4 dX6_more_35 rfl ?_
      refine z_aload_n (pc := 37) hX 0 dX6_more_37 rfl rfl ?_
      refine z_aload_n (pc := 38) hX 0 dX6_more_38 rfl rfl ?_
      refine z_get (pc := 39) (c := 0) (j := 0) (v := .int (zI (m4 0 0))) hX rfl zfl_RX6_69 (Nat.le_of_ble_eq_true rfl) (zMod_e (ca := ca) (f := m4 0)) rfl dX6_more_39 ?_
      refine z_iconst (pc := 42) hX dX6_more_42 ?_
      refine z_isub (pc := 43) hX dX6_more_43 ?_
      obtain ⟨r5, hr5, h⟩ := zcl_s h
      refine z_callVr (pc := 44) (c := 0) hX [.int (zI ((m4 0 0) - 1))] [.int (zI v4)] (wX6_isNew (ca := ca) hG  hr5) rfl zmv_RX6_72 (Nat.le_of_ble_eq_true rfl) (zMod_e (ca := ca) (f := m4 0)) rfl rfl ⟨rfl, rfl⟩ ⟨by decide, by decide⟩ (Nat.le_of_ble_eq_true rfl) dX6_more_44 ?_
      refine z_if_eq (pc := 47) (tgt := 54) hX dX6_more_47 (by decide) (fun hc6 => ?_) (fun hc6 => ?_)
      · replace h := (if_pos hc6).symm.trans h
        refine z_iconst (pc := 54) hX dX6_more_54 ?_
        refine z_iadd (pc := 55) hX dX6_more_55 ?_
        refine z_istore (pc := 56) (lv' := [(4, .int (zI (v4 + 0))), (0, .ref (ad 0)), (1, .int (zI a1)), (2, .int (zI a2)), (3, .int (zI k3)), (5, .int (zI v5))]) hX dX6_more_56 (by decide) rfl ?_
        refine z_iinc (pc := 58) (lv' := [(5, .int (zI (v5 + 1))), (4, .int (zI (v4 + 0))), (0, .ref (ad 0)), (1, .int (zI a1)), (2, .int (zI a2)), (3, .int (zI k3))]) hX 5 dX6_more_58 rfl (by decide) rfl ?_
        refine z_goto (pc := 61) (tgt := 11) hX dX6_more_61 (by decide) ?_
        refine z_sub [2, 3, 4, 5, 1, 0] rfl ?_
        exact ih _ _ _ h
      · replace h := (if_neg hc6).symm.trans h
        refine z_iconst (pc := 50) hX dX6_more_50 ?_
        refine z_goto (pc := 51) (tgt := 55) hX dX6_more_51 (by decide) ?_
        refine z_iadd (pc := 55) hX dX6_more_55 ?_
        refine z_istore (pc := 56) (lv' := [(4, .int (zI (v4 + 1))), (0, .ref (ad 0)), (1, .int (zI a1)), (2, .int (zI a2)), (3, .int (zI k3)), (5, .int (zI v5))]) hX dX6_more_56 (by decide) rfl ?_
        refine z_iinc (pc := 58) (lv' := [(5, .int (zI (v5 + 1))), (4, .int (zI (v4 + 1))), (0, .ref (ad 0)), (1, .int (zI a1)), (2, .int (zI a2)), (3, .int (zI k3))]) hX 5 dX6_more_58 rfl (by decide) rfl ?_
        refine z_goto (pc := 61) (tgt := 11) hX dX6_more_61 (by decide) ?_
        refine z_sub [2, 3, 4, 5, 1, 0] rfl ?_
        exact ih _ _ _ h
set_option maxRecDepth 20000 in
set_option maxHeartbeats 4000000 in
theorem wX6_more {l : Launch} {D : va_G} {ca : Nat → ClassId} {ad : Nat → Nat} (hG : zGok (zGM D ca ad)) {a1 : Int} {a2 : Int} {r0 : Int} {m0 : zM} {m : zM} (h : FX6_more a1 a2 m = some (r0, m0)) : zCt l (zGM D ca ad) yX6_more cX6_more 6 (some .int) rmX6_more [.ref (ad 0), .int (zI a1), .int (zI a2)] m (some (.int (zI r0))) m0 := by
  unfold FX6_more at h
  refine z_of (plainFor_of_name (by decide +kernel)) hG (Nat.le_of_ble_eq_true rfl) (fun X hX => ?_)
  show zV X 6 m 0 [(0, .ref (ad 0)), (1, .int (zI a1)), (2, .int (zI a2))] []
  refine z_aload_n (pc := 0) hX 0 dX6_more_0 rfl rfl ?_
  refine z_get (pc := 1) (c := 0) (j := 0) (v := .int (zI (m 0 0))) hX rfl zfl_RX6_69 (Nat.le_of_ble_eq_true rfl) (zMod_e (ca := ca) (f := m 0)) rfl dX6_more_1 ?_
  refine z_istore_n (pc := 4) (lv' := [(3, .int (zI (m 0 0))), (0, .ref (ad 0)), (1, .int (zI a1)), (2, .int (zI a2))]) hX dX6_more_4 rfl (by decide) rfl ?_
  refine z_iconst (pc := 5) hX dX6_more_5 ?_
  refine z_istore (pc := 6) (lv' := [(4, .int (zI 0)), (3, .int (zI (m 0 0))), (0, .ref (ad 0)), (1, .int (zI a1)), (2, .int (zI a2))]) hX dX6_more_6 (by decide) rfl ?_
  refine z_iconst (pc := 8) hX dX6_more_8 ?_
  refine z_istore (pc := 9) (lv' := [(5, .int (zI 0)), (4, .int (zI 0)), (3, .int (zI (m 0 0))), (0, .ref (ad 0)), (1, .int (zI a1)), (2, .int (zI a2))]) hX dX6_more_9 (by decide) rfl ?_
  refine z_sub [3, 4, 5, 2, 1, 0] rfl ?_
  refine wX6_more_L11 hG  hX (fun y11_4 y11_5 m11_ h => ?_) _ _ _ _ h
  refine z_aload_n (pc := 64) hX 0 dX6_more_64 rfl rfl ?_
  refine z_iload_n (pc := 65) hX 3 dX6_more_65 rfl rfl ?_
  obtain ⟨m8, hm8, h⟩ := zpf_s h
  refine z_put (pc := 66) (c := 0) (j := 0) hX rfl zfl_RX6_69 zfi_6_0 (Nat.le_of_ble_eq_true rfl) (zMod_e (ca := ca) (f := m11_ 0)) (Nat.le_of_ble_eq_true rfl) (zMod_p0 (ca := ca)) hm8 dX6_more_66 ?_
  refine z_iload (pc := 69) hX 4 dX6_more_69 rfl ?_
  exact z_iret (pc := 71) hX rfl rfl (Prod.mk.inj (Option.some.inj h)).1 (Prod.mk.inj (Option.some.inj h)).2 dX6_more_71
def rmX6_grow : Room := { frames := 4, cells := 0, slots := 0, locals := 97 }
set_option maxRecDepth 20000 in
set_option maxHeartbeats 4000000 in
theorem wX6_grow_L41 {X : zXT} {l : Launch} {D : va_G} {ca : Nat → ClassId} {ad : Nat → Nat} (hG : zGok (zGM D ca ad)) {a1 : Int} {a2 : Int}  {r0 : Int} {m0 : zM}  (hX : zC X l rmX6_grow (zGM D ca ad) (some (.int (zI r0))) m0 cX6_grow 7 RX6 (some .int)) {k : Int → Int → Int → zM → Option (Int × zM)} (hk : ∀ (v3 : Int) (v4 : Int) (v5 : Int) (m_ : zM), k v3 v4 v5 m_ = some (r0, m0) → zV X 7 m_ 93 [(0, .ref (ad 0)), (1, .int (zI a1)), (2, .int (zI a2)), (3, .int (zI v3)), (4, .int (zI v4)), (5, .int (zI v5))] []) : ∀ (n : Nat) (v3 : Int) (v4 : Int) (v5 : Int) (m_ : zM), FX6_grow_L41 a1 a2 k n v3 v4 v5 m_ = some (r0, m0) → zV X 7 m_ 41 [(0, .ref (ad 0)), (1, .int (zI a1)), (2, .int (zI a2)), (3, .int (zI v3)), (4, .int (zI v4)), (5, .int (zI v5))] [] := by
  intro n
  induction n with
  | zero => intro v3 v4 v5 m_ h; cases h
  | succ n ih =>
    intro v3 v4 v5 m_ h
    replace h : FX6_grow_L41_B a1 a2 k (FX6_grow_L41 a1 a2 k n) v3 v4 v5 m_ = some (r0, m0) := h
    unfold FX6_grow_L41_B at h
    refine z_iload (pc := 41) hX 5 dX6_grow_41 rfl ?_
    refine z_iload_n (pc := 43) hX 1 dX6_grow_43 rfl rfl ?_
    obtain ⟨r3, hr3, h⟩ := zcl_s h
    refine z_callSr (pc := 44) hX [.int (zI a1)] [.int (zI v5)] (wX6_power (ca := ca) hG  hr3) zms_RX6_142 rfl rfl ⟨rfl, rfl⟩ ⟨by decide, by decide⟩ (Nat.le_of_ble_eq_true rfl) dX6_grow_44 ?_
    refine z_icmp_ge (pc := 47) (tgt := 93) hX dX6_grow_47 (by decide) (fun hc7 => ?_) (fun hc7 => ?_)
    · replace h := (if_neg hc7).symm.trans h
      exact hk _ _ _ _ h
    · replace h := (if_pos hc7).symm.trans h
      refine z_aload_n (pc := 50) hX 0 dX6_grow_50 rfl rfl ?_
      refine z_iload_n (pc := 51) hX 1 dX6_grow_51 rfl rfl ?_
      refine z_iload (pc := 52) hX 5 dX6_grow_52 rfl ?_
      obtain ⟨r4, m4, hr4, h⟩ := zcl2_s h
      refine z_callVr (pc := 54) (c := 0) hX [.int (zI a1), .int (zI v5)] [] (wX6_more (ca := ca) hG  hr4) rfl zmv_RX6_147 (Nat.le_of_ble_eq_true rfl) (zMod_e (ca := ca) (f := m_ 0)) rfl rfl ⟨rfl, rfl⟩ ⟨by decide, by decide⟩ (Nat.le_of_ble_eq_true rfl) dX6_grow_54 ?_
      refine z_istore (pc := 57) (lv' := [(6, .int (zI r4)), (0, .ref (ad 0)), (1, .int (zI a1)), (2, .int (zI a2)), (3, .int (zI v3)), (4, .int (zI v4)), (5, .int (zI v5))]) hX dX6_grow_57 (by decide) rfl ?_
      refine z_iload (pc := 59) hX 0 dX6_grow_59 rfl ?_
      refine z_iload_n (pc := 61) hX 4 dX6_grow_61 rfl rfl ?_
      obtain ⟨j72, hj72, h⟩ := zjn_s h (fun (j : Int → Option (Int × zM)) => ∀ (s72_0 : Int), j s72_0 = some (r0, m0) → zV X 7 m4 72 [(0, .ref (ad 0)), (1, .int (zI a1)), (2, .int (zI a2)), (3, .int (zI v3)), (5, .int (zI v5)), (6, .int (zI r4))] [.int (zI s72_0)]) (fun s72_0 h => by
          refine z_istore (pc := 72) (lv' := [(4, .int (zI s72_0)), (0, .ref (ad 0)), (1, .int (zI a1)), (2, .int (zI a2)), (3, .int (zI v3)), (5, .int (zI v5)), (6, .int (zI r4))]) hX dX6_grow_72 (by decide) rfl ?_
          refine z_iload (pc := 74) hX 6 dX6_grow_74 rfl ?_
          refine z_iload_n (pc := 76) hX 4 dX6_grow_76 rfl rfl ?_
          refine z_icmp_le (pc := 77) (tgt := 85) hX dX6_grow_77 (by decide) (fun hc5 => ?_) (fun hc5 => ?_)
          · replace h := (if_neg hc5).symm.trans h
            refine z_iload_n (pc := 85) hX 4 dX6_grow_85 rfl rfl ?_
            refine z_istore_n (pc := 86) (lv' := [(3, .int (zI v3)), (4, .int (zI s72_0)), (0, .ref (ad 0)), (1, .int (zI a1)), (2, .int (zI a2)), (5, .int (zI v5)), (6, .int (zI r4))]) hX dX6_grow_86 rfl (by decide) rfl ?_
            refine z_iinc (pc := 87) (lv' := [(5, .int (zI (v5 + 1))), (3, .int (zI v3)), (4, .int (zI s72_0)), (0, .ref (ad 0)), (1, .int (zI a1)), (2, .int (zI a2)), (6, .int (zI r4))]) hX 5 dX6_grow_87 rfl (by decide) rfl ?_
            refine z_goto (pc := 90) (tgt := 41) hX dX6_grow_90 (by decide) ?_
            refine z_sub [3, 4, 5, 1, 2, 0] rfl ?_
            exact ih _ _ _ _ h
          · replace h := (if_pos hc5).symm.trans h
            refine z_iload (pc := 80) hX 6 dX6_grow_80 rfl ?_
            refine z_goto (pc := 82) (tgt := 86) hX dX6_grow_82 (by decide) ?_
            refine z_istore_n (pc := 86) (lv' := [(3, .int (zI r4)), (4, .int (zI s72_0)), (0, .ref (ad 0)), (1, .int (zI a1)), (2, .int (zI a2)), (5, .int (zI v5)), (6, .int (zI r4))]) hX dX6_grow_86 rfl (by decide) rfl ?_
            refine z_iinc (pc := 87) (lv' := [(5, .int (zI (v5 + 1))), (3, .int (zI r4)), (4, .int (zI s72_0)), (0, .ref (ad 0)), (1, .int (zI a1)), (2, .int (zI a2)), (6, .int (zI r4))]) hX 5 dX6_grow_87 rfl (by decide) rfl ?_
            refine z_goto (pc := 90) (tgt := 41) hX dX6_grow_90 (by decide) ?_
            refine z_sub [3, 4, 5, 1, 2, 0] rfl ?_
            exact ih _ _ _ _ h
          )
      refine z_icmp_le (pc := 62) (tgt := 70) hX dX6_grow_62 (by decide) (fun hc6 => ?_) (fun hc6 => ?_)
      · replace h := (if_neg hc6).symm.trans h
        refine z_iload (pc := 70) hX 5 dX6_grow_70 rfl ?_
        refine z_sub [1, 2, 3, 4, 6, 0] rfl ?_
        exact hj72 _ h
      · replace h := (if_pos hc6).symm.trans h
        refine z_iload (pc := 65) hX 6 dX6_grow_65 rfl ?_
        refine z_goto (pc := 67) (tgt := 72) hX dX6_grow_67 (by decide) ?_
        refine z_sub [1, 2, 3, 4, 6, 0] rfl ?_
        exact hj72 _ h
set_option maxRecDepth 20000 in
set_option maxHeartbeats 4000000 in
theorem wX6_grow {l : Launch} {D : va_G} {ca : Nat → ClassId} {ad : Nat → Nat} (hG : zGok (zGM D ca ad)) {a1 : Int} {a2 : Int} {r0 : Int} {m0 : zM} {m : zM} (h : FX6_grow a1 a2 m = some (r0, m0)) : zCt l (zGM D ca ad) yX6_grow cX6_grow 7 (some .int) rmX6_grow [.ref (ad 0), .int (zI a1), .int (zI a2)] m (some (.int (zI r0))) m0 := by
  unfold FX6_grow at h
  refine z_of (plainFor_of_name (by decide +kernel)) hG (Nat.le_of_ble_eq_true rfl) (fun X hX => ?_)
  show zV X 7 m 0 [(0, .ref (ad 0)), (1, .int (zI a1)), (2, .int (zI a2))] []
  refine z_iload_n (pc := 0) hX 1 dX6_grow_0 rfl rfl ?_
  obtain ⟨g1, h⟩ := zgd_s h
  refine z_i2l (pc := 1) hX g1 dX6_grow_1 ?_
  refine z_lconst (pc := 2) (a := 0) hX dX6_grow_2 (by decide +kernel) ?_
  refine z_ldc2 (pc := 3) (n := 3) hX zk_RX6_145 (by decide +kernel) dX6_grow_3 ?_
  obtain ⟨r2, hr2, h⟩ := zcl_s h
  refine z_callSr (pc := 6) hX [.long (zJ a1), .long (zJ 0), .long (zJ 3)] [] (wX6_within (ca := ca) hG  hr2) zms_RX6_90 rfl rfl ⟨rfl, rfl⟩ ⟨by decide, by decide⟩ (Nat.le_of_ble_eq_true rfl) dX6_grow_6 ?_
  refine z_if_eq (pc := 9) (tgt := 17) hX dX6_grow_9 (by decide) (fun hc16 => ?_) (fun hc16 => ?_)
  · replace h := (if_pos hc16).symm.trans h
    refine z_iconst (pc := 17) hX dX6_grow_17 ?_
    exact z_iret (pc := 18) hX rfl rfl (Prod.mk.inj (Option.some.inj h)).1 (Prod.mk.inj (Option.some.inj h)).2 dX6_grow_18
  · replace h := (if_neg hc16).symm.trans h
    refine z_iload_n (pc := 12) hX 2 dX6_grow_12 rfl rfl ?_
    refine z_iconst (pc := 13) hX dX6_grow_13 ?_
    refine z_icmp_ge (pc := 14) (tgt := 19) hX dX6_grow_14 (by decide) (fun hc15 => ?_) (fun hc15 => ?_)
    · replace h := (if_neg hc15).symm.trans h
      refine z_aload_n (pc := 19) hX 0 dX6_grow_19 rfl rfl ?_
      refine z_get (pc := 20) (c := 0) (j := 0) (v := .int (zI (m 0 0))) hX rfl zfl_RX6_69 (Nat.le_of_ble_eq_true rfl) (zMod_e (ca := ca) (f := m 0)) rfl dX6_grow_20 ?_
      refine z_iload_n (pc := 23) hX 1 dX6_grow_23 rfl rfl ?_
      refine z_iadd (pc := 24) hX dX6_grow_24 ?_
      refine z_bipush (pc := 25) hX dX6_grow_25 (by decide +kernel) ?_
      refine z_icmp_le (pc := 27) (tgt := 33) hX dX6_grow_27 (by decide) (fun hc14 => ?_) (fun hc14 => ?_)
      · replace h := (if_neg hc14).symm.trans h
        refine z_iconst (pc := 33) hX dX6_grow_33 ?_
        refine z_istore_n (pc := 34) (lv' := [(3, .int (zI (-1))), (0, .ref (ad 0)), (1, .int (zI a1)), (2, .int (zI a2))]) hX dX6_grow_34 rfl (by decide) rfl ?_
        refine z_iconst (pc := 35) hX dX6_grow_35 ?_
        refine z_istore (pc := 36) (lv' := [(4, .int (zI 0)), (3, .int (zI (-1))), (0, .ref (ad 0)), (1, .int (zI a1)), (2, .int (zI a2))]) hX dX6_grow_36 (by decide) rfl ?_
        refine z_iconst (pc := 38) hX dX6_grow_38 ?_
        refine z_istore (pc := 39) (lv' := [(5, .int (zI 0)), (4, .int (zI 0)), (3, .int (zI (-1))), (0, .ref (ad 0)), (1, .int (zI a1)), (2, .int (zI a2))]) hX dX6_grow_39 (by decide) rfl ?_
        refine z_sub [3, 4, 5, 2, 1, 0] rfl ?_
        refine wX6_grow_L41 hG  hX (fun y41_3 y41_4 y41_5 m41_ h => ?_) _ _ _ _ _ h
        refine z_aload_n (pc := 93) hX 0 dX6_grow_93 rfl rfl ?_
        obtain ⟨m8, hr8, h⟩ := zcl_s h
        refine z_callVv (pc := 94) (v := .null) (c := 0) hX [] [] (wX6_lay (ca := ca) hG  hr8) rfl zmv_RX6_111 (Nat.le_of_ble_eq_true rfl) (zMod_e (ca := ca) (f := m41_ 0)) rfl rfl ⟨rfl, rfl⟩ ⟨by decide, by decide⟩ (Nat.le_of_ble_eq_true rfl) dX6_grow_94 ?_
        refine z_iload_n (pc := 97) hX 2 dX6_grow_97 rfl rfl ?_
        refine z_iconst (pc := 98) hX dX6_grow_98 ?_
        refine z_icmp_ne (pc := 99) (tgt := 111) hX dX6_grow_99 (by decide) (fun hc13 => ?_) (fun hc13 => ?_)
        · replace h := (if_neg hc13).symm.trans h
          refine z_iload_n (pc := 111) hX 2 dX6_grow_111 rfl rfl ?_
          refine z_iload_n (pc := 112) hX 1 dX6_grow_112 rfl rfl ?_
          refine z_icmp_ge (pc := 113) (tgt := 136) hX dX6_grow_113 (by decide) (fun hc12 => ?_) (fun hc12 => ?_)
          · replace h := (if_neg hc12).symm.trans h
            refine z_bipush (pc := 136) hX dX6_grow_136 (by decide +kernel) ?_
            exact z_iret (pc := 138) hX rfl rfl (Prod.mk.inj (Option.some.inj h)).1 (Prod.mk.inj (Option.some.inj h)).2 dX6_grow_138
          · replace h := (if_pos hc12).symm.trans h
            refine z_bipush (pc := 116) hX dX6_grow_116 (by decide +kernel) ?_
            refine z_iload (pc := 118) hX 4 dX6_grow_118 rfl ?_
            refine z_iload_n (pc := 120) hX 1 dX6_grow_120 rfl rfl ?_
            refine z_iconst (pc := 121) hX dX6_grow_121 ?_
            refine z_isub (pc := 122) hX dX6_grow_122 ?_
            refine z_iload_n (pc := 123) hX 2 dX6_grow_123 rfl rfl ?_
            refine z_isub (pc := 124) hX dX6_grow_124 ?_
            obtain ⟨r9, hr9, h⟩ := zcl_s h
            refine z_callSr (pc := 125) hX [.int (zI ((a1 - 1) - a2))] [.int (zI y41_4), .int (zI 97)] (wX6_power (ca := ca) hG  hr9) zms_RX6_142 rfl rfl ⟨rfl, rfl⟩ ⟨by decide, by decide⟩ (Nat.le_of_ble_eq_true rfl) dX6_grow_125 ?_
            obtain ⟨g10, h⟩ := zgd_s h
            refine z_idiv (pc := 128) hX g10 dX6_grow_128 ?_
            refine z_bipush (pc := 129) hX dX6_grow_129 (by decide +kernel) ?_
            obtain ⟨g11, h⟩ := zgd_s h
            refine z_irem (pc := 131) hX g11 dX6_grow_131 ?_
            refine z_iadd (pc := 132) hX dX6_grow_132 ?_
            refine z_goto (pc := 133) (tgt := 138) hX dX6_grow_133 (by decide) ?_
            exact z_iret (pc := 138) hX rfl rfl (Prod.mk.inj (Option.some.inj h)).1 (Prod.mk.inj (Option.some.inj h)).2 dX6_grow_138
        · replace h := (if_pos hc13).symm.trans h
          refine z_aload_n (pc := 102) hX 0 dX6_grow_102 rfl rfl ?_
          refine z_get (pc := 103) (c := 0) (j := 12) (v := .int (zI (m8 0 12))) hX rfl zfl_RX6_65 (Nat.le_of_ble_eq_true rfl) (zMod_e (ca := ca) (f := m8 0)) rfl dX6_grow_103 ?_
          refine z_iload_n (pc := 106) hX 3 dX6_grow_106 rfl rfl ?_
          refine z_iadd (pc := 107) hX dX6_grow_107 ?_
          refine z_goto (pc := 108) (tgt := 138) hX dX6_grow_108 (by decide) ?_
          exact z_iret (pc := 138) hX rfl rfl (Prod.mk.inj (Option.some.inj h)).1 (Prod.mk.inj (Option.some.inj h)).2 dX6_grow_138
      · replace h := (if_pos hc14).symm.trans h
        refine z_bipush (pc := 30) hX dX6_grow_30 (by decide +kernel) ?_
        exact z_iret (pc := 32) hX rfl rfl (Prod.mk.inj (Option.some.inj h)).1 (Prod.mk.inj (Option.some.inj h)).2 dX6_grow_32
    · replace h := (if_pos hc15).symm.trans h
      refine z_iconst (pc := 17) hX dX6_grow_17 ?_
      exact z_iret (pc := 18) hX rfl rfl (Prod.mk.inj (Option.some.inj h)).1 (Prod.mk.inj (Option.some.inj h)).2 dX6_grow_18
def rmX6_unlike : Room := { frames := 1, cells := 0, slots := 0, locals := 25 }
set_option maxRecDepth 20000 in
set_option maxHeartbeats 4000000 in
theorem wX6_unlike_L36 {X : zXT} {l : Launch} {D : va_G} {ca : Nat → ClassId} {ad : Nat → Nat} (hG : zGok (zGM D ca ad)) {a1 : Int} {a2 : Int}  {r0 : Int} {m : zM} {k3 : Int} {k4 : Int} {k5 : Int} (hX : zC X l rmX6_unlike (zGM D ca ad) (some (.int (zI r0))) m cX6_unlike 8 RX6 (some .int)) {k : Int → Int → Option (Int)} (hk : ∀ (v6 : Int) (v7 : Int), k v6 v7 = some r0 → zV X 8 m 74 [(0, .ref (ad 0)), (1, .int (zI a1)), (2, .int (zI a2)), (3, .int (zI k3)), (4, .int (zI k4)), (5, .int (zI k5)), (6, .int (zI v6)), (7, .int (zI v7))] []) : ∀ (n : Nat) (v6 : Int) (v7 : Int), FX6_unlike_L36 a1 a2 k3 k4 k5 m k n v6 v7 = some r0 → zV X 8 m 36 [(0, .ref (ad 0)), (1, .int (zI a1)), (2, .int (zI a2)), (3, .int (zI k3)), (4, .int (zI k4)), (5, .int (zI k5)), (6, .int (zI v6)), (7, .int (zI v7))] [] := by
  intro n
  induction n with
  | zero => intro v6 v7 h; cases h
  | succ n ih =>
    intro v6 v7 h
    replace h : FX6_unlike_L36_B a1 a2 k3 k4 k5 m k (FX6_unlike_L36 a1 a2 k3 k4 k5 m k n) v6 v7 = some r0 := h
    unfold FX6_unlike_L36_B at h
    refine z_iload (pc := 36) hX 7 dX6_unlike_36 rfl ?_
    refine z_iload (pc := 38) hX 4 dX6_unlike_38 rfl ?_
    refine z_icmp_ge (pc := 40) (tgt := 74) hX dX6_unlike_40 (by decide) (fun hc5 => ?_) (fun hc5 => ?_)
    · replace h := (if_neg hc5).symm.trans h
      exact hk _ _ h
    · replace h := (if_pos hc5).symm.trans h
      refine z_iload (pc := 43) hX 6 dX6_unlike_43 rfl ?_
      refine z_if_eq (pc := 45) (tgt := 74) hX dX6_unlike_45 (by decide) (fun hc4 => ?_) (fun hc4 => ?_)
      · replace h := (if_pos hc4).symm.trans h
        exact hk _ _ h
      · replace h := (if_neg hc4).symm.trans h
        refine z_aload_n (pc := 48) hX 0 dX6_unlike_48 rfl rfl ?_
        refine z_iload (pc := 49) hX 7 dX6_unlike_49 rfl ?_
        refine z_iload (pc := 51) hX 4 dX6_unlike_51 rfl ?_
        refine z_iload (pc := 53) hX 5 dX6_unlike_53 rfl ?_
        obtain ⟨r2, hr2, h⟩ := zcl_s h
        refine z_callVr (pc := 55) (c := 0) hX [.int (zI v7), .int (zI k4), .int (zI k5)] [] (wX6_isSame (ca := ca) hG  hr2) rfl zmv_RX6_61 (Nat.le_of_ble_eq_true rfl) (zMod_e (ca := ca) (f := m 0)) rfl rfl ⟨rfl, rfl⟩ ⟨by decide, by decide⟩ (Nat.le_of_ble_eq_true rfl) dX6_unlike_55 ?_
        refine z_if_ne (pc := 58) (tgt := 65) hX dX6_unlike_58 (by decide) (fun hc3 => ?_) (fun hc3 => ?_)
        · replace h := (if_neg hc3).symm.trans h
          refine z_iconst (pc := 65) hX dX6_unlike_65 ?_
          refine z_istore (pc := 66) (lv' := [(6, .int (zI 0)), (0, .ref (ad 0)), (1, .int (zI a1)), (2, .int (zI a2)), (3, .int (zI k3)), (4, .int (zI k4)), (5, .int (zI k5)), (7, .int (zI v7))]) hX dX6_unlike_66 (by decide) rfl ?_
          refine z_iinc (pc := 68) (lv' := [(7, .int (zI (v7 + 1))), (6, .int (zI 0)), (0, .ref (ad 0)), (1, .int (zI a1)), (2, .int (zI a2)), (3, .int (zI k3)), (4, .int (zI k4)), (5, .int (zI k5))]) hX 7 dX6_unlike_68 rfl (by decide) rfl ?_
          refine z_goto (pc := 71) (tgt := 36) hX dX6_unlike_71 (by decide) ?_
          refine z_sub [2, 3, 4, 5, 6, 7, 1, 0] rfl ?_
          exact ih _ _ h
        · replace h := (if_pos hc3).symm.trans h
          refine z_iconst (pc := 61) hX dX6_unlike_61 ?_
          refine z_goto (pc := 62) (tgt := 66) hX dX6_unlike_62 (by decide) ?_
          refine z_istore (pc := 66) (lv' := [(6, .int (zI 1)), (0, .ref (ad 0)), (1, .int (zI a1)), (2, .int (zI a2)), (3, .int (zI k3)), (4, .int (zI k4)), (5, .int (zI k5)), (7, .int (zI v7))]) hX dX6_unlike_66 (by decide) rfl ?_
          refine z_iinc (pc := 68) (lv' := [(7, .int (zI (v7 + 1))), (6, .int (zI 1)), (0, .ref (ad 0)), (1, .int (zI a1)), (2, .int (zI a2)), (3, .int (zI k3)), (4, .int (zI k4)), (5, .int (zI k5))]) hX 7 dX6_unlike_68 rfl (by decide) rfl ?_
          refine z_goto (pc := 71) (tgt := 36) hX dX6_unlike_71 (by decide) ?_
          refine z_sub [2, 3, 4, 5, 6, 7, 1, 0] rfl ?_
          exact ih _ _ h
set_option maxRecDepth 20000 in
set_option maxHeartbeats 4000000 in
theorem wX6_unlike_L14 {X : zXT} {l : Launch} {D : va_G} {ca : Nat → ClassId} {ad : Nat → Nat} (hG : zGok (zGM D ca ad)) {a1 : Int} {a2 : Int}  {r0 : Int} {m : zM} {k4 : Int} (hX : zC X l rmX6_unlike (zGM D ca ad) (some (.int (zI r0))) m cX6_unlike 8 RX6 (some .int)) {k : Int → Int → Option (Int)} (hk : ∀ (v3 : Int) (v5 : Int), k v3 v5 = some r0 → zV X 8 m 93 [(0, .ref (ad 0)), (1, .int (zI a1)), (2, .int (zI a2)), (3, .int (zI v3)), (4, .int (zI k4)), (5, .int (zI v5))] []) : ∀ (n : Nat) (v3 : Int) (v5 : Int), FX6_unlike_L14 a1 a2 k4 m k n v3 v5 = some r0 → zV X 8 m 14 [(0, .ref (ad 0)), (1, .int (zI a1)), (2, .int (zI a2)), (3, .int (zI v3)), (4, .int (zI k4)), (5, .int (zI v5))] [] := by
  intro n
  induction n with
  | zero => intro v3 v5 h; cases h
  | succ n ih =>
    intro v3 v5 h
    replace h : FX6_unlike_L14_B a1 a2 k4 m k (FX6_unlike_L14 a1 a2 k4 m k n) v3 v5 = some r0 := h
    unfold FX6_unlike_L14_B at h
    refine z_iload (pc := 14) hX 4 dX6_unlike_14 rfl ?_
    refine z_iload (pc := 16) hX 5 dX6_unlike_16 rfl ?_
    refine z_iadd (pc := 18) hX dX6_unlike_18 ?_
    refine z_iload_n (pc := 19) hX 2 dX6_unlike_19 rfl rfl ?_
    refine z_icmp_gt (pc := 20) (tgt := 93) hX dX6_unlike_20 (by decide) (fun hc7 => ?_) (fun hc7 => ?_)
    · replace h := (if_pos hc7).symm.trans h
      exact hk _ _ h
    · replace h := (if_neg hc7).symm.trans h
      refine z_aload_n (pc := 23) hX 0 dX6_unlike_23 rfl rfl ?_
      refine z_iload (pc := 24) hX 4 dX6_unlike_24 rfl ?_
      refine z_iload (pc := 26) hX 5 dX6_unlike_26 rfl ?_
      obtain ⟨r1, hr1, h⟩ := zcl_s h
      refine z_callVr (pc := 28) (c := 0) hX [.int (zI k4), .int (zI v5)] [] (wX6_isMirror (ca := ca) hG  hr1) rfl zmv_RX6_53 (Nat.le_of_ble_eq_true rfl) (zMod_e (ca := ca) (f := m 0)) rfl rfl ⟨rfl, rfl⟩ ⟨by decide, by decide⟩ (Nat.le_of_ble_eq_true rfl) dX6_unlike_28 ?_
      refine z_istore (pc := 31) (lv' := [(6, .int (zI r1)), (0, .ref (ad 0)), (1, .int (zI a1)), (2, .int (zI a2)), (3, .int (zI v3)), (4, .int (zI k4)), (5, .int (zI v5))]) hX dX6_unlike_31 (by decide) rfl ?_
      refine z_iload_n (pc := 33) hX 2 dX6_unlike_33 rfl rfl ?_
      refine z_istore (pc := 34) (lv' := [(7, .int (zI a1)), (6, .int (zI r1)), (0, .ref (ad 0)), (1, .int (zI a1)), (2, .int (zI a2)), (3, .int (zI v3)), (4, .int (zI k4)), (5, .int (zI v5))]) hX dX6_unlike_34 (by decide) rfl ?_
      refine z_sub [2, 3, 4, 5, 6, 7, 1, 0] rfl ?_
      refine wX6_unlike_L36 hG  hX (fun y36_6 y36_7 h => ?_) _ _ _ h
      refine z_iload_n (pc := 74) hX 3 dX6_unlike_74 rfl rfl ?_
      refine z_iload (pc := 75) hX 6 dX6_unlike_75 rfl ?_
      refine z_if_eq (pc := 77) (tgt := 84) hX dX6_unlike_77 (by decide) (fun hc6 => ?_) (fun hc6 => ?_)
      · replace h := (if_pos hc6).symm.trans h
        refine z_iconst (pc := 84) hX dX6_unlike_84 ?_
        refine z_iadd (pc := 85) hX dX6_unlike_85 ?_
        refine z_istore_n (pc := 86) (lv' := [(3, .int (zI (v3 + 0))), (0, .ref (ad 0)), (1, .int (zI a1)), (2, .int (zI a2)), (4, .int (zI k4)), (5, .int (zI v5)), (6, .int (zI y36_6)), (7, .int (zI y36_7))]) hX dX6_unlike_86 rfl (by decide) rfl ?_
        refine z_iinc (pc := 87) (lv' := [(5, .int (zI (v5 + 1))), (3, .int (zI (v3 + 0))), (0, .ref (ad 0)), (1, .int (zI a1)), (2, .int (zI a2)), (4, .int (zI k4)), (6, .int (zI y36_6)), (7, .int (zI y36_7))]) hX 5 dX6_unlike_87 rfl (by decide) rfl ?_
        refine z_goto (pc := 90) (tgt := 14) hX dX6_unlike_90 (by decide) ?_
        refine z_sub [2, 3, 4, 1, 5, 0] rfl ?_
        exact ih _ _ h
      · replace h := (if_neg hc6).symm.trans h
        refine z_iconst (pc := 80) hX dX6_unlike_80 ?_
        refine z_goto (pc := 81) (tgt := 85) hX dX6_unlike_81 (by decide) ?_
        refine z_iadd (pc := 85) hX dX6_unlike_85 ?_
        refine z_istore_n (pc := 86) (lv' := [(3, .int (zI (v3 + 1))), (0, .ref (ad 0)), (1, .int (zI a1)), (2, .int (zI a2)), (4, .int (zI k4)), (5, .int (zI v5)), (6, .int (zI y36_6)), (7, .int (zI y36_7))]) hX dX6_unlike_86 rfl (by decide) rfl ?_
        refine z_iinc (pc := 87) (lv' := [(5, .int (zI (v5 + 1))), (3, .int (zI (v3 + 1))), (0, .ref (ad 0)), (1, .int (zI a1)), (2, .int (zI a2)), (4, .int (zI k4)), (6, .int (zI y36_6)), (7, .int (zI y36_7))]) hX 5 dX6_unlike_87 rfl (by decide) rfl ?_
        refine z_goto (pc := 90) (tgt := 14) hX dX6_unlike_90 (by decide) ?_
        refine z_sub [2, 3, 4, 1, 5, 0] rfl ?_
        exact ih _ _ h
set_option maxRecDepth 20000 in
set_option maxHeartbeats 4000000 in
theorem wX6_unlike_L5 {X : zXT} {l : Launch} {D : va_G} {ca : Nat → ClassId} {ad : Nat → Nat} (hG : zGok (zGM D ca ad)) {a1 : Int} {a2 : Int}  {r0 : Int} {m : zM}  (hX : zC X l rmX6_unlike (zGM D ca ad) (some (.int (zI r0))) m cX6_unlike 8 RX6 (some .int)) {k : Int → Int → Option (Int)} (hk : ∀ (v3 : Int) (v4 : Int), k v3 v4 = some r0 → zV X 8 m 99 [(0, .ref (ad 0)), (1, .int (zI a1)), (2, .int (zI a2)), (3, .int (zI v3)), (4, .int (zI v4))] []) : ∀ (n : Nat) (v3 : Int) (v4 : Int), FX6_unlike_L5 a1 a2 m k n v3 v4 = some r0 → zV X 8 m 5 [(0, .ref (ad 0)), (1, .int (zI a1)), (2, .int (zI a2)), (3, .int (zI v3)), (4, .int (zI v4))] [] := by
  intro n
  induction n with
  | zero => intro v3 v4 h; cases h
  | succ n ih =>
    intro v3 v4 h
    replace h : FX6_unlike_L5_B a1 a2 m k (FX6_unlike_L5 a1 a2 m k n) v3 v4 = some r0 := h
    unfold FX6_unlike_L5_B at h
    refine z_iload (pc := 5) hX 4 dX6_unlike_5 rfl ?_
    refine z_iload_n (pc := 7) hX 2 dX6_unlike_7 rfl rfl ?_
    refine z_icmp_ge (pc := 8) (tgt := 99) hX dX6_unlike_8 (by decide) (fun hc8 => ?_) (fun hc8 => ?_)
    · replace h := (if_neg hc8).symm.trans h
      exact hk _ _ h
    · replace h := (if_pos hc8).symm.trans h
      refine z_iconst (pc := 11) hX dX6_unlike_11 ?_
      refine z_istore (pc := 12) (lv' := [(5, .int (zI 1)), (0, .ref (ad 0)), (1, .int (zI a1)), (2, .int (zI a2)), (3, .int (zI v3)), (4, .int (zI v4))]) hX dX6_unlike_12 (by decide) rfl ?_
      refine z_sub [1, 2, 3, 4, 5, 0] rfl ?_
      refine wX6_unlike_L14 hG  hX (fun y14_3 y14_5 h => ?_) _ _ _ h
      refine z_iinc (pc := 93) (lv' := [(4, .int (zI (v4 + 1))), (0, .ref (ad 0)), (1, .int (zI a1)), (2, .int (zI a2)), (3, .int (zI y14_3)), (5, .int (zI y14_5))]) hX 4 dX6_unlike_93 rfl (by decide) rfl ?_
      refine z_goto (pc := 96) (tgt := 5) hX dX6_unlike_96 (by decide) ?_
      refine z_sub [1, 2, 3, 4, 0] rfl ?_
      exact ih _ _ h
set_option maxRecDepth 20000 in
set_option maxHeartbeats 4000000 in
theorem wX6_unlike {l : Launch} {D : va_G} {ca : Nat → ClassId} {ad : Nat → Nat} (hG : zGok (zGM D ca ad)) {a1 : Int} {a2 : Int} {r0 : Int} {m : zM} (h : FX6_unlike a1 a2 m = some r0) : zCt l (zGM D ca ad) yX6_unlike cX6_unlike 8 (some .int) rmX6_unlike [.ref (ad 0), .int (zI a1), .int (zI a2)] m (some (.int (zI r0))) m := by
  unfold FX6_unlike at h
  refine z_of (plainFor_of_name (by decide +kernel)) hG (Nat.le_of_ble_eq_true rfl) (fun X hX => ?_)
  show zV X 8 m 0 [(0, .ref (ad 0)), (1, .int (zI a1)), (2, .int (zI a2))] []
  refine z_iconst (pc := 0) hX dX6_unlike_0 ?_
  refine z_istore_n (pc := 1) (lv' := [(3, .int (zI 0)), (0, .ref (ad 0)), (1, .int (zI a1)), (2, .int (zI a2))]) hX dX6_unlike_1 rfl (by decide) rfl ?_
  refine z_iload_n (pc := 2) hX 2 dX6_unlike_2 rfl rfl ?_
  refine z_istore (pc := 3) (lv' := [(4, .int (zI a1)), (3, .int (zI 0)), (0, .ref (ad 0)), (1, .int (zI a1)), (2, .int (zI a2))]) hX dX6_unlike_3 (by decide) rfl ?_
  refine z_sub [2, 3, 4, 1, 0] rfl ?_
  refine wX6_unlike_L5 hG  hX (fun y5_3 y5_4 h => ?_) _ _ _ h
  refine z_iload_n (pc := 99) hX 3 dX6_unlike_99 rfl rfl ?_
  exact z_iret (pc := 100) hX rfl rfl (Option.some.inj h) rfl dX6_unlike_100
def rmX6_in : Room := { frames := 2, cells := 0, slots := 0, locals := 52 }
set_option maxRecDepth 20000 in
set_option maxHeartbeats 4000000 in
theorem wX6_in_L56 {X : zXT} {l : Launch} {D : va_G} {ca : Nat → ClassId} {ad : Nat → Nat} (hG : zGok (zGM D ca ad)) {a1 : Int} {a2 : Int} {a3 : Int}  {r0 : Int} {m : zM} {k4 : Int} (hX : zC X l rmX6_in (zGM D ca ad) (some (.int (zI r0))) m cX6_in 6 RX6 (some .int)) {k : Int → Option (Int)} (hk : ∀ (v5 : Int), k v5 = some r0 → zV X 6 m 94 [(0, .ref (ad 0)), (1, .int (zI a1)), (2, .int (zI a2)), (3, .int (zI a3)), (4, .int (zI k4)), (5, .int (zI v5))] []) : ∀ (n : Nat) (v5 : Int), FX6_in_L56 a1 a2 a3 k4 m k n v5 = some r0 → zV X 6 m 56 [(0, .ref (ad 0)), (1, .int (zI a1)), (2, .int (zI a2)), (3, .int (zI a3)), (4, .int (zI k4)), (5, .int (zI v5))] [] := by
  intro n
  induction n with
  | zero => intro v5 h; cases h
  | succ n ih =>
    intro v5 h
    replace h : FX6_in_L56_B a1 a2 a3 k4 m k (FX6_in_L56 a1 a2 a3 k4 m k n) v5 = some r0 := h
    unfold FX6_in_L56_B at h
    refine z_iload (pc := 56) hX 5 dX6_in_56 rfl ?_
    refine z_iload (pc := 58) hX 4 dX6_in_58 rfl ?_
    refine z_iadd (pc := 60) hX dX6_in_60 ?_
    refine z_iload_n (pc := 61) hX 2 dX6_in_61 rfl rfl ?_
    refine z_icmp_gt (pc := 62) (tgt := 94) hX dX6_in_62 (by decide) (fun hc6 => ?_) (fun hc6 => ?_)
    · replace h := (if_pos hc6).symm.trans h
      exact hk _ h
    · replace h := (if_neg hc6).symm.trans h
      refine z_aload_n (pc := 65) hX 0 dX6_in_65 rfl rfl ?_
      refine z_iload (pc := 66) hX 5 dX6_in_66 rfl ?_
      refine z_iload (pc := 68) hX 4 dX6_in_68 rfl ?_
      obtain ⟨r3, hr3, h⟩ := zcl_s h
      refine z_callVr (pc := 70) (c := 0) hX [.int (zI v5), .int (zI k4)] [] (wX6_isMirror (ca := ca) hG  hr3) rfl zmv_RX6_53 (Nat.le_of_ble_eq_true rfl) (zMod_e (ca := ca) (f := m 0)) rfl rfl ⟨rfl, rfl⟩ ⟨by decide, by decide⟩ (Nat.le_of_ble_eq_true rfl) dX6_in_70 ?_
      refine z_if_eq (pc := 73) (tgt := 88) hX dX6_in_73 (by decide) (fun hc5 => ?_) (fun hc5 => ?_)
      · replace h := (if_pos hc5).symm.trans h
        refine z_iinc (pc := 88) (lv' := [(5, .int (zI (v5 + 1))), (0, .ref (ad 0)), (1, .int (zI a1)), (2, .int (zI a2)), (3, .int (zI a3)), (4, .int (zI k4))]) hX 5 dX6_in_88 rfl (by decide) rfl ?_
        refine z_goto (pc := 91) (tgt := 56) hX dX6_in_91 (by decide) ?_
        refine z_sub [1, 2, 3, 4, 5, 0] rfl ?_
        exact ih _ h
      · replace h := (if_neg hc5).symm.trans h
        refine z_iload_n (pc := 76) hX 3 dX6_in_76 rfl rfl ?_
        refine z_if_ne (pc := 77) (tgt := 85) hX dX6_in_77 (by decide) (fun hc4 => ?_) (fun hc4 => ?_)
        · replace h := (if_neg hc4).symm.trans h
          refine z_iload (pc := 85) hX 5 dX6_in_85 rfl ?_
          exact z_iret (pc := 87) hX rfl rfl (Option.some.inj h) rfl dX6_in_87
        · replace h := (if_pos hc4).symm.trans h
          refine z_iload (pc := 80) hX 4 dX6_in_80 rfl ?_
          refine z_goto (pc := 82) (tgt := 87) hX dX6_in_82 (by decide) ?_
          exact z_iret (pc := 87) hX rfl rfl (Option.some.inj h) rfl dX6_in_87
set_option maxRecDepth 20000 in
set_option maxHeartbeats 4000000 in
theorem wX6_in_L48 {X : zXT} {l : Launch} {D : va_G} {ca : Nat → ClassId} {ad : Nat → Nat} (hG : zGok (zGM D ca ad)) {a1 : Int} {a2 : Int} {a3 : Int}  {r0 : Int} {m : zM}  (hX : zC X l rmX6_in (zGM D ca ad) (some (.int (zI r0))) m cX6_in 6 RX6 (some .int)) {k : Int → Option (Int)} (hk : ∀ (v4 : Int), k v4 = some r0 → zV X 6 m 100 [(0, .ref (ad 0)), (1, .int (zI a1)), (2, .int (zI a2)), (3, .int (zI a3)), (4, .int (zI v4))] []) : ∀ (n : Nat) (v4 : Int), FX6_in_L48 a1 a2 a3 m k n v4 = some r0 → zV X 6 m 48 [(0, .ref (ad 0)), (1, .int (zI a1)), (2, .int (zI a2)), (3, .int (zI a3)), (4, .int (zI v4))] [] := by
  intro n
  induction n with
  | zero => intro v4 h; cases h
  | succ n ih =>
    intro v4 h
    replace h : FX6_in_L48_B a1 a2 a3 m k (FX6_in_L48 a1 a2 a3 m k n) v4 = some r0 := h
    unfold FX6_in_L48_B at h
    refine z_iload (pc := 48) hX 4 dX6_in_48 rfl ?_
    refine z_if_le (pc := 50) (tgt := 100) hX dX6_in_50 (by decide) (fun hc7 => ?_) (fun hc7 => ?_)
    · replace h := (if_neg hc7).symm.trans h
      exact hk _ h
    · replace h := (if_pos hc7).symm.trans h
      refine z_iload_n (pc := 53) hX 1 dX6_in_53 rfl rfl ?_
      refine z_istore (pc := 54) (lv' := [(5, .int (zI a1)), (0, .ref (ad 0)), (1, .int (zI a1)), (2, .int (zI a2)), (3, .int (zI a3)), (4, .int (zI v4))]) hX dX6_in_54 (by decide) rfl ?_
      refine z_sub [1, 2, 3, 4, 5, 0] rfl ?_
      refine wX6_in_L56 hG  hX (fun y56_5 h => ?_) _ _ h
      refine z_iinc (pc := 94) (lv' := [(4, .int (zI (v4 + -1))), (0, .ref (ad 0)), (1, .int (zI a1)), (2, .int (zI a2)), (3, .int (zI a3)), (5, .int (zI y56_5))]) hX 4 dX6_in_94 rfl (by decide) rfl ?_
      refine z_goto (pc := 97) (tgt := 48) hX dX6_in_97 (by decide) ?_
      refine z_sub [1, 2, 3, 4, 0] rfl ?_
      exact ih _ h
set_option maxRecDepth 20000 in
set_option maxHeartbeats 4000000 in
theorem wX6_in {l : Launch} {D : va_G} {ca : Nat → ClassId} {ad : Nat → Nat} (hG : zGok (zGM D ca ad)) {a1 : Int} {a2 : Int} {a3 : Int} {r0 : Int} {m : zM} (h : FX6_in a1 a2 a3 m = some r0) : zCt l (zGM D ca ad) yX6_in cX6_in 6 (some .int) rmX6_in [.ref (ad 0), .int (zI a1), .int (zI a2), .int (zI a3)] m (some (.int (zI r0))) m := by
  unfold FX6_in at h
  refine z_of (plainFor_of_name (by decide +kernel)) hG (Nat.le_of_ble_eq_true rfl) (fun X hX => ?_)
  show zV X 6 m 0 [(0, .ref (ad 0)), (1, .int (zI a1)), (2, .int (zI a2)), (3, .int (zI a3))] []
  refine z_iload_n (pc := 0) hX 1 dX6_in_0 rfl rfl ?_
  refine z_if_lt (pc := 1) (tgt := 29) hX dX6_in_1 (by decide) (fun hc14 => ?_) (fun hc14 => ?_)
  · replace h := (if_pos hc14).symm.trans h
    refine z_iconst (pc := 29) hX dX6_in_29 ?_
    exact z_iret (pc := 30) hX rfl rfl (Option.some.inj h) rfl dX6_in_30
  · replace h := (if_neg hc14).symm.trans h
    refine z_iload_n (pc := 4) hX 2 dX6_in_4 rfl rfl ?_
    refine z_iload_n (pc := 5) hX 1 dX6_in_5 rfl rfl ?_
    refine z_icmp_lt (pc := 6) (tgt := 29) hX dX6_in_6 (by decide) (fun hc13 => ?_) (fun hc13 => ?_)
    · replace h := (if_pos hc13).symm.trans h
      refine z_iconst (pc := 29) hX dX6_in_29 ?_
      exact z_iret (pc := 30) hX rfl rfl (Option.some.inj h) rfl dX6_in_30
    · replace h := (if_neg hc13).symm.trans h
      refine z_iload_n (pc := 9) hX 2 dX6_in_9 rfl rfl ?_
      refine z_aload_n (pc := 10) hX 0 dX6_in_10 rfl rfl ?_
      refine z_get (pc := 11) (c := 0) (j := 0) (v := .int (zI (m 0 0))) hX rfl zfl_RX6_69 (Nat.le_of_ble_eq_true rfl) (zMod_e (ca := ca) (f := m 0)) rfl dX6_in_11 ?_
      refine z_icmp_gt (pc := 14) (tgt := 29) hX dX6_in_14 (by decide) (fun hc12 => ?_) (fun hc12 => ?_)
      · replace h := (if_pos hc12).symm.trans h
        refine z_iconst (pc := 29) hX dX6_in_29 ?_
        exact z_iret (pc := 30) hX rfl rfl (Option.some.inj h) rfl dX6_in_30
      · replace h := (if_neg hc12).symm.trans h
        refine z_iload_n (pc := 17) hX 3 dX6_in_17 rfl rfl ?_
        obtain ⟨g1, h⟩ := zgd_s h
        refine z_i2l (pc := 18) hX g1 dX6_in_18 ?_
        refine z_lconst (pc := 19) (a := 0) hX dX6_in_19 (by decide +kernel) ?_
        refine z_ldc2 (pc := 20) (n := 2) hX zk_RX6_130 (by decide +kernel) dX6_in_20 ?_
        obtain ⟨r2, hr2, h⟩ := zcl_s h
        refine z_callSr (pc := 23) hX [.long (zJ a3), .long (zJ 0), .long (zJ 2)] [] (wX6_within (ca := ca) hG  hr2) zms_RX6_90 rfl rfl ⟨rfl, rfl⟩ ⟨by decide, by decide⟩ (Nat.le_of_ble_eq_true rfl) dX6_in_23 ?_
        refine z_if_ne (pc := 26) (tgt := 31) hX dX6_in_26 (by decide) (fun hc11 => ?_) (fun hc11 => ?_)
        · replace h := (if_neg hc11).symm.trans h
          refine z_iload_n (pc := 31) hX 3 dX6_in_31 rfl rfl ?_
          refine z_iconst (pc := 32) hX dX6_in_32 ?_
          refine z_icmp_ne (pc := 33) (tgt := 43) hX dX6_in_33 (by decide) (fun hc10 => ?_) (fun hc10 => ?_)
          · replace h := (if_neg hc10).symm.trans h
            refine z_iload_n (pc := 43) hX 2 dX6_in_43 rfl rfl ?_
            refine z_iload_n (pc := 44) hX 1 dX6_in_44 rfl rfl ?_
            refine z_isub (pc := 45) hX dX6_in_45 ?_
            refine z_istore (pc := 46) (lv' := [(4, .int (zI (a2 - a1))), (0, .ref (ad 0)), (1, .int (zI a1)), (2, .int (zI a2)), (3, .int (zI a3))]) hX dX6_in_46 (by decide) rfl ?_
            refine z_sub [1, 2, 3, 4, 0] rfl ?_
            refine wX6_in_L48 hG  hX (fun y48_4 h => ?_) _ _ h
            refine z_iload_n (pc := 100) hX 3 dX6_in_100 rfl rfl ?_
            refine z_if_ne (pc := 101) (tgt := 108) hX dX6_in_101 (by decide) (fun hc8 => ?_) (fun hc8 => ?_)
            · replace h := (if_neg hc8).symm.trans h
              refine z_bipush (pc := 108) hX dX6_in_108 (by decide +kernel) ?_
              exact z_iret (pc := 110) hX rfl rfl (Option.some.inj h) rfl dX6_in_110
            · replace h := (if_pos hc8).symm.trans h
              refine z_iconst (pc := 104) hX dX6_in_104 ?_
              refine z_goto (pc := 105) (tgt := 110) hX dX6_in_105 (by decide) ?_
              exact z_iret (pc := 110) hX rfl rfl (Option.some.inj h) rfl dX6_in_110
          · replace h := (if_pos hc10).symm.trans h
            refine z_aload_n (pc := 36) hX 0 dX6_in_36 rfl rfl ?_
            refine z_iload_n (pc := 37) hX 1 dX6_in_37 rfl rfl ?_
            refine z_iload_n (pc := 38) hX 2 dX6_in_38 rfl rfl ?_
            obtain ⟨r9, hr9, h⟩ := zcl_s h
            refine z_callVr (pc := 39) (c := 0) hX [.int (zI a1), .int (zI a2)] [] (wX6_unlike (ca := ca) hG  hr9) rfl zmv_RX6_132 (Nat.le_of_ble_eq_true rfl) (zMod_e (ca := ca) (f := m 0)) rfl rfl ⟨rfl, rfl⟩ ⟨by decide, by decide⟩ (Nat.le_of_ble_eq_true rfl) dX6_in_39 ?_
            exact z_iret (pc := 42) hX rfl rfl (Option.some.inj h) rfl dX6_in_42
        · replace h := (if_pos hc11).symm.trans h
          refine z_iconst (pc := 29) hX dX6_in_29 ?_
          exact z_iret (pc := 30) hX rfl rfl (Option.some.inj h) rfl dX6_in_30
def rmX6_isTurned : Room := { frames := 0, cells := 0, slots := 0, locals := 0 }
set_option maxRecDepth 20000 in
set_option maxHeartbeats 4000000 in
theorem wX6_isTurned_L4 {X : zXT} {l : Launch} {D : va_G} {ca : Nat → ClassId} {ad : Nat → Nat} (hG : zGok (zGM D ca ad)) {a1 : Int}  {r0 : Int} {m : zM}  (hX : zC X l rmX6_isTurned (zGM D ca ad) (some (.int (zI r0))) m cX6_isTurned 4 RX6 (some .boolean)) {k : Int → Int → Option (Int)} (hk : ∀ (v2 : Int) (v3 : Int), k v2 v3 = some r0 → zV X 4 m 66 [(0, .ref (ad 0)), (1, .int (zI a1)), (2, .int (zI v2)), (3, .int (zI v3))] []) : ∀ (n : Nat) (v2 : Int) (v3 : Int), FX6_isTurned_L4 a1 m k n v2 v3 = some r0 → zV X 4 m 4 [(0, .ref (ad 0)), (1, .int (zI a1)), (2, .int (zI v2)), (3, .int (zI v3))] [] := by
  intro n
  induction n with
  | zero => intro v2 v3 h; cases h
  | succ n ih =>
    intro v2 v3 h
    replace h : FX6_isTurned_L4_B a1 m k (FX6_isTurned_L4 a1 m k n) v2 v3 = some r0 := h
    unfold FX6_isTurned_L4_B at h
    refine z_iload_n (pc := 4) hX 3 dX6_isTurned_4 rfl rfl ?_
    refine z_aload_n (pc := 5) hX 0 dX6_isTurned_5 rfl rfl ?_
    refine z_get (pc := 6) (c := 0) (j := 0) (v := .int (zI (m 0 0))) hX rfl zfl_RX6_69 (Nat.le_of_ble_eq_true rfl) (zMod_e (ca := ca) (f := m 0)) rfl dX6_isTurned_6 ?_
    refine z_iconst (pc := 9) hX dX6_isTurned_9 ?_
    obtain ⟨g1, h⟩ := zgd_s h
    refine z_idiv (pc := 10) hX g1 dX6_isTurned_10 ?_
    refine z_icmp_ge (pc := 11) (tgt := 66) hX dX6_isTurned_11 (by decide) (fun hc8 => ?_) (fun hc8 => ?_)
    · replace h := (if_neg hc8).symm.trans h
      exact hk _ _ h
    · replace h := (if_pos hc8).symm.trans h
      refine z_iload_n (pc := 14) hX 2 dX6_isTurned_14 rfl rfl ?_
      refine z_if_eq (pc := 15) (tgt := 66) hX dX6_isTurned_15 (by decide) (fun hc7 => ?_) (fun hc7 => ?_)
      · replace h := (if_pos hc7).symm.trans h
        exact hk _ _ h
      · replace h := (if_neg hc7).symm.trans h
        refine z_aload_n (pc := 18) hX 0 dX6_isTurned_18 rfl rfl ?_
        refine z_get (pc := 19) (c := 0) (j := 1) (v := .ref (ad 1)) hX rfl zfl_RX6_7 (Nat.le_of_ble_eq_true rfl) (zMod_e (ca := ca) (f := m 0)) rfl dX6_isTurned_19 ?_
        refine z_iload_n (pc := 22) hX 1 dX6_isTurned_22 rfl rfl ?_
        refine z_iload_n (pc := 23) hX 3 dX6_isTurned_23 rfl rfl ?_
        refine z_iadd (pc := 24) hX dX6_isTurned_24 ?_
        refine z_aload_n (pc := 25) hX 0 dX6_isTurned_25 rfl rfl ?_
        refine z_get (pc := 26) (c := 0) (j := 0) (v := .int (zI (m 0 0))) hX rfl zfl_RX6_69 (Nat.le_of_ble_eq_true rfl) (zMod_e (ca := ca) (f := m 0)) rfl dX6_isTurned_26 ?_
        obtain ⟨g2, h⟩ := zgd_s h
        refine z_irem (pc := 29) hX g2 dX6_isTurned_29 ?_
        obtain ⟨x3, hx3, hi3, h⟩ := zrd_s h
        refine z_iald (pc := 30) (c := 1) hX zMi1 hi3 hx3 dX6_isTurned_30 ?_
        refine z_aload_n (pc := 31) hX 0 dX6_isTurned_31 rfl rfl ?_
        refine z_get (pc := 32) (c := 0) (j := 1) (v := .ref (ad 1)) hX rfl zfl_RX6_7 (Nat.le_of_ble_eq_true rfl) (zMod_e (ca := ca) (f := m 0)) rfl dX6_isTurned_32 ?_
        refine z_iload_n (pc := 35) hX 1 dX6_isTurned_35 rfl rfl ?_
        refine z_aload_n (pc := 36) hX 0 dX6_isTurned_36 rfl rfl ?_
        refine z_get (pc := 37) (c := 0) (j := 0) (v := .int (zI (m 0 0))) hX rfl zfl_RX6_69 (Nat.le_of_ble_eq_true rfl) (zMod_e (ca := ca) (f := m 0)) rfl dX6_isTurned_37 ?_
        refine z_iadd (pc := 40) hX dX6_isTurned_40 ?_
        refine z_iconst (pc := 41) hX dX6_isTurned_41 ?_
        refine z_isub (pc := 42) hX dX6_isTurned_42 ?_
        refine z_iload_n (pc := 43) hX 3 dX6_isTurned_43 rfl rfl ?_
        refine z_isub (pc := 44) hX dX6_isTurned_44 ?_
        refine z_aload_n (pc := 45) hX 0 dX6_isTurned_45 rfl rfl ?_
        refine z_get (pc := 46) (c := 0) (j := 0) (v := .int (zI (m 0 0))) hX rfl zfl_RX6_69 (Nat.le_of_ble_eq_true rfl) (zMod_e (ca := ca) (f := m 0)) rfl dX6_isTurned_46 ?_
        obtain ⟨g4, h⟩ := zgd_s h
        refine z_irem (pc := 49) hX g4 dX6_isTurned_49 ?_
        obtain ⟨x5, hx5, hi5, h⟩ := zrd_s h
        refine z_iald (pc := 50) (c := 1) hX zMi1 hi5 hx5 dX6_isTurned_50 ?_
        refine z_icmp_ne (pc := 51) (tgt := 58) hX dX6_isTurned_51 (by decide) (fun hc6 => ?_) (fun hc6 => ?_)
        · replace h := (if_neg hc6).symm.trans h
          refine z_iconst (pc := 58) hX dX6_isTurned_58 ?_
          refine z_istore_n (pc := 59) (lv' := [(2, .int (zI 0)), (0, .ref (ad 0)), (1, .int (zI a1)), (3, .int (zI v3))]) hX dX6_isTurned_59 rfl (by decide) rfl ?_
          refine z_iinc (pc := 60) (lv' := [(3, .int (zI (v3 + 1))), (2, .int (zI 0)), (0, .ref (ad 0)), (1, .int (zI a1))]) hX 3 dX6_isTurned_60 rfl (by decide) rfl ?_
          refine z_goto (pc := 63) (tgt := 4) hX dX6_isTurned_63 (by decide) ?_
          refine z_sub [2, 3, 1, 0] rfl ?_
          exact ih _ _ h
        · replace h := (if_pos hc6).symm.trans h
          refine z_iconst (pc := 54) hX dX6_isTurned_54 ?_
          refine z_goto (pc := 55) (tgt := 59) hX dX6_isTurned_55 (by decide) ?_
          refine z_istore_n (pc := 59) (lv' := [(2, .int (zI 1)), (0, .ref (ad 0)), (1, .int (zI a1)), (3, .int (zI v3))]) hX dX6_isTurned_59 rfl (by decide) rfl ?_
          refine z_iinc (pc := 60) (lv' := [(3, .int (zI (v3 + 1))), (2, .int (zI 1)), (0, .ref (ad 0)), (1, .int (zI a1))]) hX 3 dX6_isTurned_60 rfl (by decide) rfl ?_
          refine z_goto (pc := 63) (tgt := 4) hX dX6_isTurned_63 (by decide) ?_
          refine z_sub [2, 3, 1, 0] rfl ?_
          exact ih _ _ h
set_option maxRecDepth 20000 in
set_option maxHeartbeats 4000000 in
theorem wX6_isTurned {l : Launch} {D : va_G} {ca : Nat → ClassId} {ad : Nat → Nat} (hG : zGok (zGM D ca ad)) {a1 : Int} {r0 : Int} {m : zM} (h : FX6_isTurned a1 m = some r0) : zCt l (zGM D ca ad) yX6_isTurned cX6_isTurned 4 (some .boolean) rmX6_isTurned [.ref (ad 0), .int (zI a1)] m (some (.int (zI r0))) m := by
  unfold FX6_isTurned at h
  refine z_of (plainFor_of_name (by decide +kernel)) hG (Nat.le_of_ble_eq_true rfl) (fun X hX => ?_)
  show zV X 4 m 0 [(0, .ref (ad 0)), (1, .int (zI a1))] []
  refine z_iconst (pc := 0) hX dX6_isTurned_0 ?_
  refine z_istore_n (pc := 1) (lv' := [(2, .int (zI 1)), (0, .ref (ad 0)), (1, .int (zI a1))]) hX dX6_isTurned_1 rfl (by decide) rfl ?_
  refine z_iconst (pc := 2) hX dX6_isTurned_2 ?_
  refine z_istore_n (pc := 3) (lv' := [(3, .int (zI 0)), (2, .int (zI 1)), (0, .ref (ad 0)), (1, .int (zI a1))]) hX dX6_isTurned_3 rfl (by decide) rfl ?_
  refine z_sub [2, 3, 1, 0] rfl ?_
  refine wX6_isTurned_L4 hG  hX (fun y4_2 y4_3 h => ?_) _ _ _ h
  refine z_iload_n (pc := 66) hX 2 dX6_isTurned_66 rfl rfl ?_
  obtain ⟨g9, h⟩ := zgd_s h
  exact z_zret (pc := 67) hX rfl rfl g9 (Option.some.inj h) rfl dX6_isTurned_67
def rmX6_item : Room := { frames := 2, cells := 0, slots := 0, locals := 45 }
set_option maxRecDepth 20000 in
set_option maxHeartbeats 4000000 in
theorem wX6_item {l : Launch} {D : va_G} {ca : Nat → ClassId} {ad : Nat → Nat} (hG : zGok (zGM D ca ad)) {a1 : Int} {a2 : Int} {a3 : Int} {a4 : Int} {r0 : Int} {m0 : zM} {m : zM} (h : FX6_item a1 a2 a3 a4 m = some (r0, m0)) : zCt l (zGM D ca ad) yX6_item cX6_item 7 (some .long) rmX6_item [.ref (ad 0), .int (zI a1), .int (zI a2), .int (zI a3), .long (zJ a4)] m (some (.long (zJ r0))) m0 := by
  unfold FX6_item at h
  refine z_of (plainFor_of_name (by decide +kernel)) hG (Nat.le_of_ble_eq_true rfl) (fun X hX => ?_)
  show zV X 7 m 0 [(0, .ref (ad 0)), (1, .int (zI a1)), (2, .int (zI a2)), (3, .int (zI a3)), (4, .long (zJ a4))] []
  refine z_iload_n (pc := 0) hX 1 dX6_item_0 rfl rfl ?_
  obtain ⟨r1, hr1, h⟩ := zcl_s h
  refine z_callSr (pc := 1) hX [.int (zI a1)] [] (wX6_isSheet (ca := ca) hG  hr1) zms_RX6_174 rfl rfl ⟨rfl, rfl⟩ ⟨by decide, by decide⟩ (Nat.le_of_ble_eq_true rfl) dX6_item_1 ?_
  refine z_if_eq (pc := 4) (tgt := 19) hX dX6_item_4 (by decide) (fun hc11 => ?_) (fun hc11 => ?_)
  · replace h := (if_pos hc11).symm.trans h
    refine z_ldc2 (pc := 19) (n := (-1)) hX zk_RX6_179 (by decide +kernel) dX6_item_19 ?_
    exact z_lret (pc := 22) hX rfl rfl (Prod.mk.inj (Option.some.inj h)).1 (Prod.mk.inj (Option.some.inj h)).2 dX6_item_22
  · replace h := (if_neg hc11).symm.trans h
    refine z_iload_n (pc := 7) hX 2 dX6_item_7 rfl rfl ?_
    obtain ⟨g2, h⟩ := zgd_s h
    refine z_i2l (pc := 8) hX g2 dX6_item_8 ?_
    refine z_lconst (pc := 9) (a := 0) hX dX6_item_9 (by decide +kernel) ?_
    refine z_ldc2 (pc := 10) (n := 3) hX zk_RX6_145 (by decide +kernel) dX6_item_10 ?_
    obtain ⟨r3, hr3, h⟩ := zcl_s h
    refine z_callSr (pc := 13) hX [.long (zJ a2), .long (zJ 0), .long (zJ 3)] [] (wX6_within (ca := ca) hG  hr3) zms_RX6_90 rfl rfl ⟨rfl, rfl⟩ ⟨by decide, by decide⟩ (Nat.le_of_ble_eq_true rfl) dX6_item_13 ?_
    refine z_if_ne (pc := 16) (tgt := 23) hX dX6_item_16 (by decide) (fun hc10 => ?_) (fun hc10 => ?_)
    · replace h := (if_neg hc10).symm.trans h
      refine z_aload_n (pc := 23) hX 0 dX6_item_23 rfl rfl ?_
      refine z_iload_n (pc := 24) hX 1 dX6_item_24 rfl rfl ?_
      refine z_iload_n (pc := 25) hX 2 dX6_item_25 rfl rfl ?_
      refine z_iload_n (pc := 26) hX 3 dX6_item_26 rfl rfl ?_
      refine z_iconst (pc := 27) hX dX6_item_27 ?_
      obtain ⟨r4, hr4, h⟩ := zcl_s h
      refine z_callVr (pc := 28) (c := 0) hX [.int (zI a1), .int (zI a2), .int (zI a3), .int (zI 1)] [] (wX6_whyNot (ca := ca) hG  hr4) rfl zmv_RX6_181 (Nat.le_of_ble_eq_true rfl) (zMod_e (ca := ca) (f := m 0)) rfl rfl ⟨rfl, rfl⟩ ⟨by decide, by decide⟩ (Nat.le_of_ble_eq_true rfl) dX6_item_28 ?_
      refine z_istore (pc := 31) (lv' := [(6, .int (zI r4)), (0, .ref (ad 0)), (1, .int (zI a1)), (2, .int (zI a2)), (3, .int (zI a3)), (4, .long (zJ a4))]) hX dX6_item_31 (by decide) rfl ?_
      refine z_iload (pc := 33) hX 0 dX6_item_33 rfl ?_
      refine z_if_eq (pc := 35) (tgt := 42) hX dX6_item_35 (by decide) (fun hc9 => ?_) (fun hc9 => ?_)
      · replace h := (if_pos hc9).symm.trans h
        refine z_aload_n (pc := 42) hX 1 dX6_item_42 rfl rfl ?_
        refine z_get (pc := 43) (c := 0) (j := 10) (v := .ref (ad 8)) hX rfl zfl_RX6_31 (Nat.le_of_ble_eq_true rfl) (zMod_e (ca := ca) (f := m 0)) rfl dX6_item_43 ?_
        refine z_bipush (pc := 46) hX dX6_item_46 (by decide +kernel) ?_
        refine z_iload_n (pc := 48) hX 2 dX6_item_48 rfl rfl ?_
        refine z_imul (pc := 49) hX dX6_item_49 ?_
        refine z_iload_n (pc := 50) hX 4 dX6_item_50 rfl rfl ?_
        refine z_iadd (pc := 51) hX dX6_item_51 ?_
        refine z_iload_n (pc := 52) hX 3 dX6_item_52 rfl rfl ?_
        refine z_lload (pc := 53) hX 5 dX6_item_53 rfl ?_
        obtain ⟨r5, hr5, h⟩ := zcl_s h
        refine z_callSr (pc := 55) hX [.int (zI a2), .long (zJ a4)] [.int (zI ((48 * a1) + a3)), .ref (ad 8)] (wX6_cut (ca := ca) hG  hr5) zms_RX6_185 rfl rfl ⟨rfl, rfl⟩ ⟨by decide, by decide⟩ (Nat.le_of_ble_eq_true rfl) dX6_item_55 ?_
        obtain ⟨m6, hm6, hi6, h⟩ := zwr_s h
        refine z_last (pc := 58) (c := 8) hX zMi8 hi6 hm6 dX6_item_58 ?_
        refine z_aload_n (pc := 59) hX 1 dX6_item_59 rfl rfl ?_
        refine z_get (pc := 60) (c := 0) (j := 10) (v := .ref (ad 8)) hX rfl zfl_RX6_31 (Nat.le_of_ble_eq_true rfl) (zMod_e (ca := ca) (f := m6 0)) rfl dX6_item_60 ?_
        refine z_bipush (pc := 63) hX dX6_item_63 (by decide +kernel) ?_
        refine z_iload_n (pc := 65) hX 2 dX6_item_65 rfl rfl ?_
        refine z_imul (pc := 66) hX dX6_item_66 ?_
        refine z_iload_n (pc := 67) hX 4 dX6_item_67 rfl rfl ?_
        refine z_iadd (pc := 68) hX dX6_item_68 ?_
        obtain ⟨x7, hx7, hi7, h⟩ := zrd_s h
        refine z_lald (pc := 69) (c := 8) hX zMi8 hi7 hx7 dX6_item_69 ?_
        exact z_lret (pc := 70) hX rfl rfl (Prod.mk.inj (Option.some.inj h)).1 (Prod.mk.inj (Option.some.inj h)).2 dX6_item_70
      · replace h := (if_neg hc9).symm.trans h
        refine z_iload (pc := 38) hX 0 dX6_item_38 rfl ?_
        obtain ⟨g8, h⟩ := zgd_s h
        refine z_i2l (pc := 40) hX g8 dX6_item_40 ?_
        exact z_lret (pc := 41) hX rfl rfl (Prod.mk.inj (Option.some.inj h)).1 (Prod.mk.inj (Option.some.inj h)).2 dX6_item_41
    · replace h := (if_pos hc10).symm.trans h
      refine z_ldc2 (pc := 19) (n := (-1)) hX zk_RX6_179 (by decide +kernel) dX6_item_19 ?_
      exact z_lret (pc := 22) hX rfl rfl (Prod.mk.inj (Option.some.inj h)).1 (Prod.mk.inj (Option.some.inj h)).2 dX6_item_22
def rmX6_keep : Room := { frames := 1, cells := 0, slots := 0, locals := 25 }
set_option maxRecDepth 20000 in
set_option maxHeartbeats 4000000 in
theorem wX6_keep {l : Launch} {D : va_G} {ca : Nat → ClassId} {ad : Nat → Nat} (hG : zGok (zGM D ca ad)) {a1 : Int} {r0 : Int} {m0 : zM} {m : zM} (h : FX6_keep a1 m = some (r0, m0)) : zCt l (zGM D ca ad) yX6_keep cX6_keep 2 (some .int) rmX6_keep [.ref (ad 0), .int (zI a1)] m (some (.int (zI r0))) m0 := by
  unfold FX6_keep at h
  refine z_of (plainFor_of_name (by decide +kernel)) hG (Nat.le_of_ble_eq_true rfl) (fun X hX => ?_)
  show zV X 2 m 0 [(0, .ref (ad 0)), (1, .int (zI a1))] []
  refine z_iload_n (pc := 0) hX 1 dX6_keep_0 rfl rfl ?_
  obtain ⟨g1, h⟩ := zgd_s h
  refine z_i2l (pc := 1) hX g1 dX6_keep_1 ?_
  refine z_lconst (pc := 2) (a := 0) hX dX6_keep_2 (by decide +kernel) ?_
  refine z_lconst (pc := 3) (a := 1) hX dX6_keep_3 (by decide +kernel) ?_
  obtain ⟨r2, hr2, h⟩ := zcl_s h
  refine z_callSr (pc := 4) hX [.long (zJ a1), .long (zJ 0), .long (zJ 1)] [] (wX6_within (ca := ca) hG  hr2) zms_RX6_90 rfl rfl ⟨rfl, rfl⟩ ⟨by decide, by decide⟩ (Nat.le_of_ble_eq_true rfl) dX6_keep_4 ?_
  refine z_if_ne (pc := 7) (tgt := 12) hX dX6_keep_7 (by decide) (fun hc5 => ?_) (fun hc5 => ?_)
  · replace h := (if_neg hc5).symm.trans h
    refine z_aload_n (pc := 12) hX 0 dX6_keep_12 rfl rfl ?_
    refine z_get (pc := 13) (c := 0) (j := 1) (v := .ref (ad 1)) hX rfl zfl_RX6_7 (Nat.le_of_ble_eq_true rfl) (zMod_e (ca := ca) (f := m 0)) rfl dX6_keep_13 ?_
    refine z_iconst (pc := 16) hX dX6_keep_16 ?_
    refine z_aload_n (pc := 17) hX 0 dX6_keep_17 rfl rfl ?_
    refine z_get (pc := 18) (c := 0) (j := 4) (v := .ref (ad 3)) hX rfl zfl_RX6_16 (Nat.le_of_ble_eq_true rfl) (zMod_e (ca := ca) (f := m 0)) rfl dX6_keep_18 ?_
    refine z_bipush (pc := 21) hX dX6_keep_21 (by decide +kernel) ?_
    refine z_iload_n (pc := 23) hX 1 dX6_keep_23 rfl rfl ?_
    refine z_imul (pc := 24) hX dX6_keep_24 ?_
    refine z_aload_n (pc := 25) hX 0 dX6_keep_25 rfl rfl ?_
    refine z_get (pc := 26) (c := 0) (j := 0) (v := .int (zI (m 0 0))) hX rfl zfl_RX6_69 (Nat.le_of_ble_eq_true rfl) (zMod_e (ca := ca) (f := m 0)) rfl dX6_keep_26 ?_
    obtain ⟨m3, hr3, h⟩ := zcl_s h
    refine z_callSv (pc := 29) (v := .null) hX [.ref (ad 1), .int (zI 0), .ref (ad 3), .int (zI (48 * a1)), .int (zI (m 0 0))] [] (wX6_bring (ca := ca) hG zMi1 zMi3 hr3) zms_RX6_97 rfl rfl ⟨rfl, rfl⟩ ⟨by decide, by decide⟩ (Nat.le_of_ble_eq_true rfl) dX6_keep_29 ?_
    refine z_aload_n (pc := 32) hX 0 dX6_keep_32 rfl rfl ?_
    refine z_get (pc := 33) (c := 0) (j := 5) (v := .ref (ad 4)) hX rfl zfl_RX6_19 (Nat.le_of_ble_eq_true rfl) (zMod_e (ca := ca) (f := m3 0)) rfl dX6_keep_33 ?_
    refine z_iload_n (pc := 36) hX 1 dX6_keep_36 rfl rfl ?_
    refine z_aload_n (pc := 37) hX 0 dX6_keep_37 rfl rfl ?_
    refine z_get (pc := 38) (c := 0) (j := 0) (v := .int (zI (m3 0 0))) hX rfl zfl_RX6_69 (Nat.le_of_ble_eq_true rfl) (zMod_e (ca := ca) (f := m3 0)) rfl dX6_keep_38 ?_
    obtain ⟨m4, hm4, hi4, h⟩ := zwr_s h
    refine z_iast (pc := 41) (c := 4) hX zMi4 hi4 hm4 dX6_keep_41 ?_
    refine z_aload_n (pc := 42) hX 0 dX6_keep_42 rfl rfl ?_
    refine z_get (pc := 43) (c := 0) (j := 0) (v := .int (zI (m4 0 0))) hX rfl zfl_RX6_69 (Nat.le_of_ble_eq_true rfl) (zMod_e (ca := ca) (f := m4 0)) rfl dX6_keep_43 ?_
    exact z_iret (pc := 46) hX rfl rfl (Prod.mk.inj (Option.some.inj h)).1 (Prod.mk.inj (Option.some.inj h)).2 dX6_keep_46
  · replace h := (if_pos hc5).symm.trans h
    refine z_iconst (pc := 10) hX dX6_keep_10 ?_
    exact z_iret (pc := 11) hX rfl rfl (Prod.mk.inj (Option.some.inj h)).1 (Prod.mk.inj (Option.some.inj h)).2 dX6_keep_11
def rmX6_letter : Room := { frames := 1, cells := 0, slots := 0, locals := 25 }
set_option maxRecDepth 20000 in
set_option maxHeartbeats 4000000 in
theorem wX6_letter {l : Launch} {D : va_G} {ca : Nat → ClassId} {ad : Nat → Nat} (hG : zGok (zGM D ca ad)) {a1 : Int} {r0 : Int} {m : zM} (h : FX6_letter a1 m = some r0) : zCt l (zGM D ca ad) yX6_letter cX6_letter 2 (some .int) rmX6_letter [.ref (ad 0), .int (zI a1)] m (some (.int (zI r0))) m := by
  unfold FX6_letter at h
  refine z_of (plainFor_of_name (by decide +kernel)) hG (Nat.le_of_ble_eq_true rfl) (fun X hX => ?_)
  show zV X 2 m 0 [(0, .ref (ad 0)), (1, .int (zI a1))] []
  refine z_iload_n (pc := 0) hX 1 dX6_letter_0 rfl rfl ?_
  obtain ⟨g1, h⟩ := zgd_s h
  refine z_i2l (pc := 1) hX g1 dX6_letter_1 ?_
  refine z_lconst (pc := 2) (a := 0) hX dX6_letter_2 (by decide +kernel) ?_
  refine z_aload_n (pc := 3) hX 0 dX6_letter_3 rfl rfl ?_
  refine z_get (pc := 4) (c := 0) (j := 0) (v := .int (zI (m 0 0))) hX rfl zfl_RX6_69 (Nat.le_of_ble_eq_true rfl) (zMod_e (ca := ca) (f := m 0)) rfl dX6_letter_4 ?_
  refine z_iconst (pc := 7) hX dX6_letter_7 ?_
  refine z_isub (pc := 8) hX dX6_letter_8 ?_
  obtain ⟨g2, h⟩ := zgd_s h
  refine z_i2l (pc := 9) hX g2 dX6_letter_9 ?_
  obtain ⟨r3, hr3, h⟩ := zcl_s h
  refine z_callSr (pc := 10) hX [.long (zJ a1), .long (zJ 0), .long (zJ ((m 0 0) - 1))] [] (wX6_within (ca := ca) hG  hr3) zms_RX6_90 rfl rfl ⟨rfl, rfl⟩ ⟨by decide, by decide⟩ (Nat.le_of_ble_eq_true rfl) dX6_letter_10 ?_
  refine z_if_eq (pc := 13) (tgt := 28) hX dX6_letter_13 (by decide) (fun hc5 => ?_) (fun hc5 => ?_)
  · replace h := (if_pos hc5).symm.trans h
    refine z_iconst (pc := 28) hX dX6_letter_28 ?_
    exact z_iret (pc := 29) hX rfl rfl (Option.some.inj h) rfl dX6_letter_29
  · replace h := (if_neg hc5).symm.trans h
    refine z_bipush (pc := 16) hX dX6_letter_16 (by decide +kernel) ?_
    refine z_aload_n (pc := 18) hX 0 dX6_letter_18 rfl rfl ?_
    refine z_get (pc := 19) (c := 0) (j := 1) (v := .ref (ad 1)) hX rfl zfl_RX6_7 (Nat.le_of_ble_eq_true rfl) (zMod_e (ca := ca) (f := m 0)) rfl dX6_letter_19 ?_
    refine z_iload_n (pc := 22) hX 1 dX6_letter_22 rfl rfl ?_
    obtain ⟨x4, hx4, hi4, h⟩ := zrd_s h
    refine z_iald (pc := 23) (c := 1) hX zMi1 hi4 hx4 dX6_letter_23 ?_
    refine z_iadd (pc := 24) hX dX6_letter_24 ?_
    refine z_goto (pc := 25) (tgt := 29) hX dX6_letter_25 (by decide) ?_
    exact z_iret (pc := 29) hX rfl rfl (Option.some.inj h) rfl dX6_letter_29
def rmX6_mend : Room := { frames := 1, cells := 0, slots := 0, locals := 25 }
set_option maxRecDepth 20000 in
set_option maxHeartbeats 4000000 in
theorem wX6_mend_L16 {X : zXT} {l : Launch} {D : va_G} {ca : Nat → ClassId} {ad : Nat → Nat} (hG : zGok (zGM D ca ad)) {a1 : Int}  {r0 : Int} {m0 : zM} {m : zM}  (hX : zC X l rmX6_mend (zGM D ca ad) (some (.int (zI r0))) m0 cX6_mend 4 RX6 (some .int)) {k : Int → Int → Option (Int × zM)} (hk : ∀ (v2 : Int) (v3 : Int), k v2 v3 = some (r0, m0) → zV X 4 m 62 [(0, .ref (ad 0)), (1, .int (zI a1)), (2, .int (zI v2)), (3, .int (zI v3))] []) : ∀ (n : Nat) (v2 : Int) (v3 : Int), FX6_mend_L16 a1 m k n v2 v3 = some (r0, m0) → zV X 4 m 16 [(0, .ref (ad 0)), (1, .int (zI a1)), (2, .int (zI v2)), (3, .int (zI v3))] [] := by
  intro n
  induction n with
  | zero => intro v2 v3 h; cases h
  | succ n ih =>
    intro v2 v3 h
    replace h : FX6_mend_L16_B a1 m k (FX6_mend_L16 a1 m k n) v2 v3 = some (r0, m0) := h
    unfold FX6_mend_L16_B at h
    refine z_iload_n (pc := 16) hX 3 dX6_mend_16 rfl rfl ?_
    refine z_aload_n (pc := 17) hX 0 dX6_mend_17 rfl rfl ?_
    refine z_get (pc := 18) (c := 0) (j := 0) (v := .int (zI (m 0 0))) hX rfl zfl_RX6_69 (Nat.le_of_ble_eq_true rfl) (zMod_e (ca := ca) (f := m 0)) rfl dX6_mend_18 ?_
    refine z_iconst (pc := 21) hX dX6_mend_21 ?_
    obtain ⟨g3, h⟩ := zgd_s h
    refine z_idiv (pc := 22) hX g3 dX6_mend_22 ?_
    refine z_icmp_ge (pc := 23) (tgt := 62) hX dX6_mend_23 (by decide) (fun hc7 => ?_) (fun hc7 => ?_)
    · replace h := (if_neg hc7).symm.trans h
      exact hk _ _ h
    · replace h := (if_pos hc7).symm.trans h
      refine z_iload_n (pc := 26) hX 2 dX6_mend_26 rfl rfl ?_
      refine z_aload_n (pc := 27) hX 0 dX6_mend_27 rfl rfl ?_
      refine z_get (pc := 28) (c := 0) (j := 1) (v := .ref (ad 1)) hX rfl zfl_RX6_7 (Nat.le_of_ble_eq_true rfl) (zMod_e (ca := ca) (f := m 0)) rfl dX6_mend_28 ?_
      refine z_iload_n (pc := 31) hX 3 dX6_mend_31 rfl rfl ?_
      obtain ⟨x4, hx4, hi4, h⟩ := zrd_s h
      refine z_iald (pc := 32) (c := 1) hX zMi1 hi4 hx4 dX6_mend_32 ?_
      refine z_aload_n (pc := 33) hX 0 dX6_mend_33 rfl rfl ?_
      refine z_get (pc := 34) (c := 0) (j := 1) (v := .ref (ad 1)) hX rfl zfl_RX6_7 (Nat.le_of_ble_eq_true rfl) (zMod_e (ca := ca) (f := m 0)) rfl dX6_mend_34 ?_
      refine z_aload_n (pc := 37) hX 0 dX6_mend_37 rfl rfl ?_
      refine z_get (pc := 38) (c := 0) (j := 0) (v := .int (zI (m 0 0))) hX rfl zfl_RX6_69 (Nat.le_of_ble_eq_true rfl) (zMod_e (ca := ca) (f := m 0)) rfl dX6_mend_38 ?_
      refine z_iconst (pc := 41) hX dX6_mend_41 ?_
      refine z_isub (pc := 42) hX dX6_mend_42 ?_
      refine z_iload_n (pc := 43) hX 3 dX6_mend_43 rfl rfl ?_
      refine z_isub (pc := 44) hX dX6_mend_44 ?_
      obtain ⟨x5, hx5, hi5, h⟩ := zrd_s h
      refine z_iald (pc := 45) (c := 1) hX zMi1 hi5 hx5 dX6_mend_45 ?_
      refine z_icmp_ne (pc := 46) (tgt := 53) hX dX6_mend_46 (by decide) (fun hc6 => ?_) (fun hc6 => ?_)
      · replace h := (if_neg hc6).symm.trans h
        refine z_iconst (pc := 53) hX dX6_mend_53 ?_
        refine z_iadd (pc := 54) hX dX6_mend_54 ?_
        refine z_istore_n (pc := 55) (lv' := [(2, .int (zI (v2 + 1))), (0, .ref (ad 0)), (1, .int (zI a1)), (3, .int (zI v3))]) hX dX6_mend_55 rfl (by decide) rfl ?_
        refine z_iinc (pc := 56) (lv' := [(3, .int (zI (v3 + 1))), (2, .int (zI (v2 + 1))), (0, .ref (ad 0)), (1, .int (zI a1))]) hX 3 dX6_mend_56 rfl (by decide) rfl ?_
        refine z_goto (pc := 59) (tgt := 16) hX dX6_mend_59 (by decide) ?_
        refine z_sub [2, 3, 1, 0] rfl ?_
        exact ih _ _ h
      · replace h := (if_pos hc6).symm.trans h
        refine z_iconst (pc := 49) hX dX6_mend_49 ?_
        refine z_goto (pc := 50) (tgt := 54) hX dX6_mend_50 (by decide) ?_
        refine z_iadd (pc := 54) hX dX6_mend_54 ?_
        refine z_istore_n (pc := 55) (lv' := [(2, .int (zI (v2 + 0))), (0, .ref (ad 0)), (1, .int (zI a1)), (3, .int (zI v3))]) hX dX6_mend_55 rfl (by decide) rfl ?_
        refine z_iinc (pc := 56) (lv' := [(3, .int (zI (v3 + 1))), (2, .int (zI (v2 + 0))), (0, .ref (ad 0)), (1, .int (zI a1))]) hX 3 dX6_mend_56 rfl (by decide) rfl ?_
        refine z_goto (pc := 59) (tgt := 16) hX dX6_mend_59 (by decide) ?_
        refine z_sub [2, 3, 1, 0] rfl ?_
        exact ih _ _ h
set_option maxRecDepth 20000 in
set_option maxHeartbeats 4000000 in
theorem wX6_mend {l : Launch} {D : va_G} {ca : Nat → ClassId} {ad : Nat → Nat} (hG : zGok (zGM D ca ad)) {a1 : Int} {r0 : Int} {m0 : zM} {m : zM} (h : FX6_mend a1 m = some (r0, m0)) : zCt l (zGM D ca ad) yX6_mend cX6_mend 4 (some .int) rmX6_mend [.ref (ad 0), .int (zI a1)] m (some (.int (zI r0))) m0 := by
  unfold FX6_mend at h
  refine z_of (plainFor_of_name (by decide +kernel)) hG (Nat.le_of_ble_eq_true rfl) (fun X hX => ?_)
  show zV X 4 m 0 [(0, .ref (ad 0)), (1, .int (zI a1))] []
  refine z_iload_n (pc := 0) hX 1 dX6_mend_0 rfl rfl ?_
  obtain ⟨g1, h⟩ := zgd_s h
  refine z_i2l (pc := 1) hX g1 dX6_mend_1 ?_
  refine z_lconst (pc := 2) (a := 0) hX dX6_mend_2 (by decide +kernel) ?_
  refine z_lconst (pc := 3) (a := 1) hX dX6_mend_3 (by decide +kernel) ?_
  obtain ⟨r2, hr2, h⟩ := zcl_s h
  refine z_callSr (pc := 4) hX [.long (zJ a1), .long (zJ 0), .long (zJ 1)] [] (wX6_within (ca := ca) hG  hr2) zms_RX6_90 rfl rfl ⟨rfl, rfl⟩ ⟨by decide, by decide⟩ (Nat.le_of_ble_eq_true rfl) dX6_mend_4 ?_
  refine z_if_ne (pc := 7) (tgt := 12) hX dX6_mend_7 (by decide) (fun hc10 => ?_) (fun hc10 => ?_)
  · replace h := (if_neg hc10).symm.trans h
    refine z_iconst (pc := 12) hX dX6_mend_12 ?_
    refine z_istore_n (pc := 13) (lv' := [(2, .int (zI 0)), (0, .ref (ad 0)), (1, .int (zI a1))]) hX dX6_mend_13 rfl (by decide) rfl ?_
    refine z_iconst (pc := 14) hX dX6_mend_14 ?_
    refine z_istore_n (pc := 15) (lv' := [(3, .int (zI 0)), (2, .int (zI 0)), (0, .ref (ad 0)), (1, .int (zI a1))]) hX dX6_mend_15 rfl (by decide) rfl ?_
    refine z_sub [2, 3, 1, 0] rfl ?_
    refine wX6_mend_L16 hG  hX (fun y16_2 y16_3 h => ?_) _ _ _ h
    refine z_iload_n (pc := 62) hX 1 dX6_mend_62 rfl rfl ?_
    refine z_if_ne (pc := 63) (tgt := 70) hX dX6_mend_63 (by decide) (fun hc9 => ?_) (fun hc9 => ?_)
    · replace h := (if_neg hc9).symm.trans h
      refine z_aload_n (pc := 70) hX 0 dX6_mend_70 rfl rfl ?_
      obtain ⟨r8, m8, hr8, h⟩ := zcl2_s h
      refine z_callVr (pc := 71) (c := 0) hX [] [] (wX6_fill (ca := ca) hG  hr8) rfl zmv_RX6_135 (Nat.le_of_ble_eq_true rfl) (zMod_e (ca := ca) (f := m 0)) rfl rfl ⟨rfl, rfl⟩ ⟨by decide, by decide⟩ (Nat.le_of_ble_eq_true rfl) dX6_mend_71 ?_
      exact z_iret (pc := 74) hX rfl rfl (Prod.mk.inj (Option.some.inj h)).1 (Prod.mk.inj (Option.some.inj h)).2 dX6_mend_74
    · replace h := (if_pos hc9).symm.trans h
      refine z_iload_n (pc := 66) hX 2 dX6_mend_66 rfl rfl ?_
      refine z_goto (pc := 67) (tgt := 74) hX dX6_mend_67 (by decide) ?_
      exact z_iret (pc := 74) hX rfl rfl (Prod.mk.inj (Option.some.inj h)).1 (Prod.mk.inj (Option.some.inj h)).2 dX6_mend_74
  · replace h := (if_pos hc10).symm.trans h
    refine z_iconst (pc := 10) hX dX6_mend_10 ?_
    exact z_iret (pc := 11) hX rfl rfl (Prod.mk.inj (Option.some.inj h)).1 (Prod.mk.inj (Option.some.inj h)).2 dX6_mend_11
def rmX6_next : Room := { frames := 3, cells := 0, slots := 0, locals := 72 }
set_option maxRecDepth 20000 in
set_option maxHeartbeats 4000000 in
theorem wX6_next {l : Launch} {D : va_G} {ca : Nat → ClassId} {ad : Nat → Nat} (hG : zGok (zGM D ca ad)) {a1 : Int} {a2 : Int} {r0 : Int} {m0 : zM} {m : zM} (h : FX6_next a1 a2 m = some (r0, m0)) : zCt l (zGM D ca ad) yX6_next cX6_next 4 (some .int) rmX6_next [.ref (ad 0), .int (zI a1), .int (zI a2)] m (some (.int (zI r0))) m0 := by
  unfold FX6_next at h
  refine z_of (plainFor_of_name (by decide +kernel)) hG (Nat.le_of_ble_eq_true rfl) (fun X hX => ?_)
  show zV X 4 m 0 [(0, .ref (ad 0)), (1, .int (zI a1)), (2, .int (zI a2))] []
  refine z_iload_n (pc := 0) hX 1 dX6_next_0 rfl rfl ?_
  obtain ⟨r1, hr1, h⟩ := zcl_s h
  refine z_callSr (pc := 1) hX [.int (zI a1)] [] (wX6_isLetter (ca := ca) hG  hr1) zms_RX6_101 rfl rfl ⟨rfl, rfl⟩ ⟨by decide, by decide⟩ (Nat.le_of_ble_eq_true rfl) dX6_next_1 ?_
  refine z_if_eq (pc := 4) (tgt := 17) hX dX6_next_4 (by decide) (fun hc12 => ?_) (fun hc12 => ?_)
  · replace h := (if_pos hc12).symm.trans h
    refine z_iconst (pc := 17) hX dX6_next_17 ?_
    exact z_iret (pc := 18) hX rfl rfl (Prod.mk.inj (Option.some.inj h)).1 (Prod.mk.inj (Option.some.inj h)).2 dX6_next_18
  · replace h := (if_neg hc12).symm.trans h
    refine z_iload_n (pc := 7) hX 2 dX6_next_7 rfl rfl ?_
    obtain ⟨g2, h⟩ := zgd_s h
    refine z_i2l (pc := 8) hX g2 dX6_next_8 ?_
    refine z_lconst (pc := 9) (a := 0) hX dX6_next_9 (by decide +kernel) ?_
    refine z_lconst (pc := 10) (a := 1) hX dX6_next_10 (by decide +kernel) ?_
    obtain ⟨r3, hr3, h⟩ := zcl_s h
    refine z_callSr (pc := 11) hX [.long (zJ a2), .long (zJ 0), .long (zJ 1)] [] (wX6_within (ca := ca) hG  hr3) zms_RX6_90 rfl rfl ⟨rfl, rfl⟩ ⟨by decide, by decide⟩ (Nat.le_of_ble_eq_true rfl) dX6_next_11 ?_
    refine z_if_ne (pc := 14) (tgt := 19) hX dX6_next_14 (by decide) (fun hc11 => ?_) (fun hc11 => ?_)
    · replace h := (if_neg hc11).symm.trans h
      refine z_aload_n (pc := 19) hX 0 dX6_next_19 rfl rfl ?_
      refine z_get (pc := 20) (c := 0) (j := 0) (v := .int (zI (m 0 0))) hX rfl zfl_RX6_69 (Nat.le_of_ble_eq_true rfl) (zMod_e (ca := ca) (f := m 0)) rfl dX6_next_20 ?_
      refine z_bipush (pc := 23) hX dX6_next_23 (by decide +kernel) ?_
      refine z_icmp_ne (pc := 25) (tgt := 31) hX dX6_next_25 (by decide) (fun hc10 => ?_) (fun hc10 => ?_)
      · replace h := (if_neg hc10).symm.trans h
        refine z_aload_n (pc := 31) hX 0 dX6_next_31 rfl rfl ?_
        refine z_iload_n (pc := 32) hX 1 dX6_next_32 rfl rfl ?_
        refine z_bipush (pc := 33) hX dX6_next_33 (by decide +kernel) ?_
        refine z_isub (pc := 35) hX dX6_next_35 ?_
        obtain ⟨m4, hr4, h⟩ := zcl_s h
        refine z_callVv (pc := 36) (v := .null) (c := 0) hX [.int (zI (a1 - 97))] [] (wX6_push (ca := ca) hG  hr4) rfl zmv_RX6_108 (Nat.le_of_ble_eq_true rfl) (zMod_e (ca := ca) (f := m 0)) rfl rfl ⟨rfl, rfl⟩ ⟨by decide, by decide⟩ (Nat.le_of_ble_eq_true rfl) dX6_next_36 ?_
        refine z_iload_n (pc := 39) hX 2 dX6_next_39 rfl rfl ?_
        obtain ⟨j76, hj76, h⟩ := zjn_s h (fun (j : Int → Option (Int × zM)) => ∀ (s76_0 : Int), j s76_0 = some (r0, m0) → zV X 4 m4 76 [(0, .ref (ad 0))] [.int (zI s76_0)]) (fun s76_0 h => by
            refine z_istore_n (pc := 76) (lv' := [(3, .int (zI s76_0)), (0, .ref (ad 0))]) hX dX6_next_76 rfl (by decide) rfl ?_
            refine z_aload_n (pc := 77) hX 1 dX6_next_77 rfl rfl ?_
            refine z_dup (pc := 78) hX dX6_next_78 rfl ?_
            refine z_get (pc := 79) (c := 0) (j := 0) (v := .int (zI (m4 0 0))) hX rfl zfl_RX6_69 (Nat.le_of_ble_eq_true rfl) (zMod_e (ca := ca) (f := m4 0)) rfl dX6_next_79 ?_
            refine z_iconst (pc := 82) hX dX6_next_82 ?_
            refine z_isub (pc := 83) hX dX6_next_83 ?_
            obtain ⟨m5, hm5, h⟩ := zpf_s h
            refine z_put (pc := 84) (c := 0) (j := 0) hX rfl zfl_RX6_69 zfi_6_0 (Nat.le_of_ble_eq_true rfl) (zMod_e (ca := ca) (f := m4 0)) (Nat.le_of_ble_eq_true rfl) (zMod_p0 (ca := ca)) hm5 dX6_next_84 ?_
            refine z_iload_n (pc := 87) hX 0 dX6_next_87 rfl rfl ?_
            exact z_iret (pc := 88) hX rfl rfl (Prod.mk.inj (Option.some.inj h)).1 (Prod.mk.inj (Option.some.inj h)).2 dX6_next_88
            )
        refine z_if_ne (pc := 40) (tgt := 58) hX dX6_next_40 (by decide) (fun hc9 => ?_) (fun hc9 => ?_)
        · replace h := (if_neg hc9).symm.trans h
          refine z_aload_n (pc := 58) hX 0 dX6_next_58 rfl rfl ?_
          refine z_aload_n (pc := 59) hX 0 dX6_next_59 rfl rfl ?_
          refine z_get (pc := 60) (c := 0) (j := 0) (v := .int (zI (m4 0 0))) hX rfl zfl_RX6_69 (Nat.le_of_ble_eq_true rfl) (zMod_e (ca := ca) (f := m4 0)) rfl dX6_next_60 ?_
          refine z_iconst (pc := 63) hX dX6_next_63 ?_
          refine z_isub (pc := 64) hX dX6_next_64 ?_
          obtain ⟨r6, hr6, h⟩ := zcl_s h
          refine z_callVr (pc := 65) (c := 0) hX [.int (zI ((m4 0 0) - 1))] [] (wX6_isNew (ca := ca) hG  hr6) rfl zmv_RX6_72 (Nat.le_of_ble_eq_true rfl) (zMod_e (ca := ca) (f := m4 0)) rfl rfl ⟨rfl, rfl⟩ ⟨by decide, by decide⟩ (Nat.le_of_ble_eq_true rfl) dX6_next_65 ?_
          refine z_if_eq (pc := 68) (tgt := 75) hX dX6_next_68 (by decide) (fun hc7 => ?_) (fun hc7 => ?_)
          · replace h := (if_pos hc7).symm.trans h
            refine z_iconst (pc := 75) hX dX6_next_75 ?_
            refine z_sub [0] rfl ?_
            exact hj76 _ h
          · replace h := (if_neg hc7).symm.trans h
            refine z_iconst (pc := 71) hX dX6_next_71 ?_
            refine z_goto (pc := 72) (tgt := 76) hX dX6_next_72 (by decide) ?_
            refine z_sub [0] rfl ?_
            exact hj76 _ h
        · replace h := (if_pos hc9).symm.trans h
          refine z_aload_n (pc := 43) hX 0 dX6_next_43 rfl rfl ?_
          refine z_aload_n (pc := 44) hX 0 dX6_next_44 rfl rfl ?_
          refine z_get (pc := 45) (c := 0) (j := 0) (v := .int (zI (m4 0 0))) hX rfl zfl_RX6_69 (Nat.le_of_ble_eq_true rfl) (zMod_e (ca := ca) (f := m4 0)) rfl dX6_next_45 ?_
          refine z_iconst (pc := 48) hX dX6_next_48 ?_
          refine z_isub (pc := 49) hX dX6_next_49 ?_
          refine z_bipush (pc := 50) hX dX6_next_50 (by decide +kernel) ?_
          obtain ⟨r8, hr8, h⟩ := zcl_s h
          refine z_callVr (pc := 52) (c := 0) hX [.int (zI ((m4 0 0) - 1)), .int (zI 49)] [] (wX6_endsBelow (ca := ca) hG  hr8) rfl zmv_RX6_57 (Nat.le_of_ble_eq_true rfl) (zMod_e (ca := ca) (f := m4 0)) rfl rfl ⟨rfl, rfl⟩ ⟨by decide, by decide⟩ (Nat.le_of_ble_eq_true rfl) dX6_next_52 ?_
          refine z_goto (pc := 55) (tgt := 76) hX dX6_next_55 (by decide) ?_
          refine z_sub [0] rfl ?_
          exact hj76 _ h
      · replace h := (if_pos hc10).symm.trans h
        refine z_bipush (pc := 28) hX dX6_next_28 (by decide +kernel) ?_
        exact z_iret (pc := 30) hX rfl rfl (Prod.mk.inj (Option.some.inj h)).1 (Prod.mk.inj (Option.some.inj h)).2 dX6_next_30
    · replace h := (if_pos hc11).symm.trans h
      refine z_iconst (pc := 17) hX dX6_next_17 ?_
      exact z_iret (pc := 18) hX rfl rfl (Prod.mk.inj (Option.some.inj h)).1 (Prod.mk.inj (Option.some.inj h)).2 dX6_next_18
def rmX6_node : Room := { frames := 5, cells := 0, slots := 0, locals := 116 }
set_option maxRecDepth 20000 in
set_option maxHeartbeats 4000000 in
theorem wX6_node {l : Launch} {D : va_G} {ca : Nat → ClassId} {ad : Nat → Nat} (hG : zGok (zGM D ca ad)) {a1 : Int} {a2 : Int} {r0 : Int} {m0 : zM} {m : zM} (h : FX6_node a1 a2 m = some (r0, m0)) : zCt l (zGM D ca ad) yX6_node cX6_node 5 (some .int) rmX6_node [.ref (ad 0), .int (zI a1), .int (zI a2)] m (some (.int (zI r0))) m0 := by
  unfold FX6_node at h
  refine z_of (plainFor_of_name (by decide +kernel)) hG (Nat.le_of_ble_eq_true rfl) (fun X hX => ?_)
  show zV X 5 m 0 [(0, .ref (ad 0)), (1, .int (zI a1)), (2, .int (zI a2))] []
  refine z_aload_n (pc := 0) hX 0 dX6_node_0 rfl rfl ?_
  obtain ⟨m1, hr1, h⟩ := zcl_s h
  refine z_callVv (pc := 1) (v := .null) (c := 0) hX [] [] (wX6_lay (ca := ca) hG  hr1) rfl zmv_RX6_111 (Nat.le_of_ble_eq_true rfl) (zMod_e (ca := ca) (f := m 0)) rfl rfl ⟨rfl, rfl⟩ ⟨by decide, by decide⟩ (Nat.le_of_ble_eq_true rfl) dX6_node_1 ?_
  refine z_iload_n (pc := 4) hX 1 dX6_node_4 rfl rfl ?_
  obtain ⟨g2, h⟩ := zgd_s h
  refine z_i2l (pc := 5) hX g2 dX6_node_5 ?_
  refine z_lconst (pc := 6) (a := 0) hX dX6_node_6 (by decide +kernel) ?_
  refine z_aload_n (pc := 7) hX 0 dX6_node_7 rfl rfl ?_
  refine z_get (pc := 8) (c := 0) (j := 12) (v := .int (zI (m1 0 12))) hX rfl zfl_RX6_65 (Nat.le_of_ble_eq_true rfl) (zMod_e (ca := ca) (f := m1 0)) rfl dX6_node_8 ?_
  refine z_iconst (pc := 11) hX dX6_node_11 ?_
  refine z_isub (pc := 12) hX dX6_node_12 ?_
  obtain ⟨g3, h⟩ := zgd_s h
  refine z_i2l (pc := 13) hX g3 dX6_node_13 ?_
  obtain ⟨r4, hr4, h⟩ := zcl_s h
  refine z_callSr (pc := 14) hX [.long (zJ a1), .long (zJ 0), .long (zJ ((m1 0 12) - 1))] [] (wX6_within (ca := ca) hG  hr4) zms_RX6_90 rfl rfl ⟨rfl, rfl⟩ ⟨by decide, by decide⟩ (Nat.le_of_ble_eq_true rfl) dX6_node_14 ?_
  refine z_if_eq (pc := 17) (tgt := 32) hX dX6_node_17 (by decide) (fun hc18 => ?_) (fun hc18 => ?_)
  · replace h := (if_pos hc18).symm.trans h
    refine z_iconst (pc := 32) hX dX6_node_32 ?_
    exact z_iret (pc := 33) hX rfl rfl (Prod.mk.inj (Option.some.inj h)).1 (Prod.mk.inj (Option.some.inj h)).2 dX6_node_33
  · replace h := (if_neg hc18).symm.trans h
    refine z_iload_n (pc := 20) hX 2 dX6_node_20 rfl rfl ?_
    obtain ⟨g5, h⟩ := zgd_s h
    refine z_i2l (pc := 21) hX g5 dX6_node_21 ?_
    refine z_lconst (pc := 22) (a := 0) hX dX6_node_22 (by decide +kernel) ?_
    refine z_ldc2 (pc := 23) (n := 7) hX zk_RX6_114 (by decide +kernel) dX6_node_23 ?_
    obtain ⟨r6, hr6, h⟩ := zcl_s h
    refine z_callSr (pc := 26) hX [.long (zJ a2), .long (zJ 0), .long (zJ 7)] [] (wX6_within (ca := ca) hG  hr6) zms_RX6_90 rfl rfl ⟨rfl, rfl⟩ ⟨by decide, by decide⟩ (Nat.le_of_ble_eq_true rfl) dX6_node_26 ?_
    refine z_if_ne (pc := 29) (tgt := 34) hX dX6_node_29 (by decide) (fun hc17 => ?_) (fun hc17 => ?_)
    · replace h := (if_neg hc17).symm.trans h
      refine z_aload_n (pc := 34) hX 0 dX6_node_34 rfl rfl ?_
      refine z_get (pc := 35) (c := 0) (j := 13) (v := .ref (ad 10)) hX rfl zfl_RX6_38 (Nat.le_of_ble_eq_true rfl) (zMod_e (ca := ca) (f := m1 0)) rfl dX6_node_35 ?_
      refine z_iload_n (pc := 38) hX 1 dX6_node_38 rfl rfl ?_
      obtain ⟨x7, hx7, hi7, h⟩ := zrd_s h
      refine z_iald (pc := 39) (c := 10) hX zMi10 hi7 hx7 dX6_node_39 ?_
      refine z_istore_n (pc := 40) (lv' := [(3, .int (zI x7)), (0, .ref (ad 0)), (1, .int (zI a1)), (2, .int (zI a2))]) hX dX6_node_40 rfl (by decide) rfl ?_
      refine z_aload_n (pc := 41) hX 1 dX6_node_41 rfl rfl ?_
      refine z_get (pc := 42) (c := 0) (j := 14) (v := .ref (ad 11)) hX rfl zfl_RX6_41 (Nat.le_of_ble_eq_true rfl) (zMod_e (ca := ca) (f := m1 0)) rfl dX6_node_42 ?_
      refine z_iload_n (pc := 45) hX 2 dX6_node_45 rfl rfl ?_
      obtain ⟨x8, hx8, hi8, h⟩ := zrd_s h
      refine z_iald (pc := 46) (c := 11) hX zMi11 hi8 hx8 dX6_node_46 ?_
      refine z_istore (pc := 47) (lv' := [(4, .int (zI x8)), (3, .int (zI x7)), (0, .ref (ad 0)), (1, .int (zI a1)), (2, .int (zI a2))]) hX dX6_node_47 (by decide) rfl ?_
      refine z_iload_n (pc := 49) hX 4 dX6_node_49 rfl rfl ?_
      by_cases hc9_0 : zI a2 = zI 0
      · replace h := (if_pos hc9_0).symm.trans h
        refine z_tswIn (pc := 50) (tgt := 92) (off := 42) hX 0 (by rw [hc9_0]; decide +kernel) dX6_node_50 rfl (by decide) ?_
        refine z_iload (pc := 92) hX 0 dX6_node_92 rfl ?_
        exact z_iret (pc := 94) hX rfl rfl (Prod.mk.inj (Option.some.inj h)).1 (Prod.mk.inj (Option.some.inj h)).2 dX6_node_94
      · replace h := (if_neg hc9_0).symm.trans h
        by_cases hc9_1 : zI a2 = zI 1
        · replace h := (if_pos hc9_1).symm.trans h
          refine z_tswIn (pc := 50) (tgt := 95) (off := 45) hX 1 (by rw [hc9_1]; decide +kernel) dX6_node_50 rfl (by decide) ?_
          refine z_iload_n (pc := 95) hX 1 dX6_node_95 rfl rfl ?_
          exact z_iret (pc := 96) hX rfl rfl (Prod.mk.inj (Option.some.inj h)).1 (Prod.mk.inj (Option.some.inj h)).2 dX6_node_96
        · replace h := (if_neg hc9_1).symm.trans h
          by_cases hc9_2 : zI a2 = zI 2
          · replace h := (if_pos hc9_2).symm.trans h
            refine z_tswIn (pc := 50) (tgt := 97) (off := 47) hX 2 (by rw [hc9_2]; decide +kernel) dX6_node_50 rfl (by decide) ?_
            refine z_aload_n (pc := 97) hX 2 dX6_node_97 rfl rfl ?_
            refine z_iload_n (pc := 98) hX 1 dX6_node_98 rfl rfl ?_
            refine z_iload (pc := 99) hX 0 dX6_node_99 rfl ?_
            refine z_iload_n (pc := 101) hX 4 dX6_node_101 rfl rfl ?_
            obtain ⟨r10, hr10, h⟩ := zcl_s h
            refine z_callVr (pc := 102) (c := 0) hX [.int (zI x7), .int (zI x8), .int (zI a2)] [] (wX6_stands (ca := ca) hG  hr10) rfl zmv_RX6_116 (Nat.le_of_ble_eq_true rfl) (zMod_e (ca := ca) (f := m1 0)) rfl rfl ⟨rfl, rfl⟩ ⟨by decide, by decide⟩ (Nat.le_of_ble_eq_true rfl) dX6_node_102 ?_
            exact z_iret (pc := 105) hX rfl rfl (Prod.mk.inj (Option.some.inj h)).1 (Prod.mk.inj (Option.some.inj h)).2 dX6_node_105
          · replace h := (if_neg hc9_2).symm.trans h
            by_cases hc9_3 : zI a2 = zI 3
            · replace h := (if_pos hc9_3).symm.trans h
              refine z_tswIn (pc := 50) (tgt := 97) (off := 47) hX 3 (by rw [hc9_3]; decide +kernel) dX6_node_50 rfl (by decide) ?_
              refine z_aload_n (pc := 97) hX 2 dX6_node_97 rfl rfl ?_
              refine z_iload_n (pc := 98) hX 1 dX6_node_98 rfl rfl ?_
              refine z_iload (pc := 99) hX 0 dX6_node_99 rfl ?_
              refine z_iload_n (pc := 101) hX 4 dX6_node_101 rfl rfl ?_
              obtain ⟨r11, hr11, h⟩ := zcl_s h
              refine z_callVr (pc := 102) (c := 0) hX [.int (zI x7), .int (zI x8), .int (zI a2)] [] (wX6_stands (ca := ca) hG  hr11) rfl zmv_RX6_116 (Nat.le_of_ble_eq_true rfl) (zMod_e (ca := ca) (f := m1 0)) rfl rfl ⟨rfl, rfl⟩ ⟨by decide, by decide⟩ (Nat.le_of_ble_eq_true rfl) dX6_node_102 ?_
              exact z_iret (pc := 105) hX rfl rfl (Prod.mk.inj (Option.some.inj h)).1 (Prod.mk.inj (Option.some.inj h)).2 dX6_node_105
            · replace h := (if_neg hc9_3).symm.trans h
              by_cases hc9_4 : zI a2 = zI 4
              · replace h := (if_pos hc9_4).symm.trans h
                refine z_tswIn (pc := 50) (tgt := 106) (off := 56) hX 4 (by rw [hc9_4]; decide +kernel) dX6_node_50 rfl (by decide) ?_
                refine z_aload_n (pc := 106) hX 2 dX6_node_106 rfl rfl ?_
                refine z_iload_n (pc := 107) hX 3 dX6_node_107 rfl rfl ?_
                obtain ⟨r12, hr12, h⟩ := zcl_s h
                refine z_callVr (pc := 108) (c := 0) hX [.int (zI a1)] [] (wX6_link (ca := ca) hG  hr12) rfl zmv_RX6_79 (Nat.le_of_ble_eq_true rfl) (zMod_e (ca := ca) (f := m1 0)) rfl rfl ⟨rfl, rfl⟩ ⟨by decide, by decide⟩ (Nat.le_of_ble_eq_true rfl) dX6_node_108 ?_
                exact z_iret (pc := 111) hX rfl rfl (Prod.mk.inj (Option.some.inj h)).1 (Prod.mk.inj (Option.some.inj h)).2 dX6_node_111
              · replace h := (if_neg hc9_4).symm.trans h
                by_cases hc9_5 : zI a2 = zI 5
                · replace h := (if_pos hc9_5).symm.trans h
                  refine z_tswIn (pc := 50) (tgt := 112) (off := 62) hX 5 (by rw [hc9_5]; decide +kernel) dX6_node_50 rfl (by decide) ?_
                  refine z_aload_n (pc := 112) hX 2 dX6_node_112 rfl rfl ?_
                  refine z_iload_n (pc := 113) hX 3 dX6_node_113 rfl rfl ?_
                  obtain ⟨r13, hr13, h⟩ := zcl_s h
                  refine z_callVr (pc := 114) (c := 0) hX [.int (zI a1)] [] (wX6_less (ca := ca) hG  hr13) rfl zmv_RX6_83 (Nat.le_of_ble_eq_true rfl) (zMod_e (ca := ca) (f := m1 0)) rfl rfl ⟨rfl, rfl⟩ ⟨by decide, by decide⟩ (Nat.le_of_ble_eq_true rfl) dX6_node_114 ?_
                  exact z_iret (pc := 117) hX rfl rfl (Prod.mk.inj (Option.some.inj h)).1 (Prod.mk.inj (Option.some.inj h)).2 dX6_node_117
                · replace h := (if_neg hc9_5).symm.trans h
                  by_cases hc9_6 : zI a2 = zI 6
                  · replace h := (if_pos hc9_6).symm.trans h
                    refine z_tswIn (pc := 50) (tgt := 118) (off := 68) hX 6 (by rw [hc9_6]; decide +kernel) dX6_node_50 rfl (by decide) ?_
                    refine z_aload_n (pc := 118) hX 2 dX6_node_118 rfl rfl ?_
                    refine z_iload_n (pc := 119) hX 3 dX6_node_119 rfl rfl ?_
                    obtain ⟨r14, hr14, h⟩ := zcl_s h
                    refine z_callVr (pc := 120) (c := 0) hX [.int (zI a1)] [] (wX6_series (ca := ca) hG  hr14) rfl zmv_RX6_120 (Nat.le_of_ble_eq_true rfl) (zMod_e (ca := ca) (f := m1 0)) rfl rfl ⟨rfl, rfl⟩ ⟨by decide, by decide⟩ (Nat.le_of_ble_eq_true rfl) dX6_node_120 ?_
                    exact z_iret (pc := 123) hX rfl rfl (Prod.mk.inj (Option.some.inj h)).1 (Prod.mk.inj (Option.some.inj h)).2 dX6_node_123
                  · replace h := (if_neg hc9_6).symm.trans h
                    refine z_tswOut (pc := 50) (tgt := 124) hX (z_out7 hc9_0 hc9_1 hc9_2 hc9_3 hc9_4 hc9_5 hc9_6) dX6_node_50 (by decide) ?_
                    refine z_iload (pc := 124) hX 0 dX6_node_124 rfl ?_
                    refine z_iconst (pc := 126) hX dX6_node_126 ?_
                    refine z_icmp_ge (pc := 127) (tgt := 135) hX dX6_node_127 (by decide) (fun hc16 => ?_) (fun hc16 => ?_)
                    · replace h := (if_neg hc16).symm.trans h
                      refine z_aload_n (pc := 135) hX 2 dX6_node_135 rfl rfl ?_
                      refine z_iload_n (pc := 136) hX 1 dX6_node_136 rfl rfl ?_
                      refine z_iconst (pc := 137) hX dX6_node_137 ?_
                      refine z_iadd (pc := 138) hX dX6_node_138 ?_
                      refine z_iload (pc := 139) hX 0 dX6_node_139 rfl ?_
                      refine z_iconst (pc := 141) hX dX6_node_141 ?_
                      refine z_isub (pc := 142) hX dX6_node_142 ?_
                      obtain ⟨r15, hr15, h⟩ := zcl_s h
                      refine z_callVr (pc := 143) (c := 0) hX [.int (zI (x7 + 1)), .int (zI (x8 - 2))] [] (wX6_nodeOf (ca := ca) hG  hr15) rfl zmv_RX6_76 (Nat.le_of_ble_eq_true rfl) (zMod_e (ca := ca) (f := m1 0)) rfl rfl ⟨rfl, rfl⟩ ⟨by decide, by decide⟩ (Nat.le_of_ble_eq_true rfl) dX6_node_143 ?_
                      exact z_iret (pc := 146) hX rfl rfl (Prod.mk.inj (Option.some.inj h)).1 (Prod.mk.inj (Option.some.inj h)).2 dX6_node_146
                    · replace h := (if_pos hc16).symm.trans h
                      refine z_bipush (pc := 130) hX dX6_node_130 (by decide +kernel) ?_
                      refine z_goto (pc := 132) (tgt := 146) hX dX6_node_132 (by decide) ?_
                      exact z_iret (pc := 146) hX rfl rfl (Prod.mk.inj (Option.some.inj h)).1 (Prod.mk.inj (Option.some.inj h)).2 dX6_node_146
    · replace h := (if_pos hc17).symm.trans h
      refine z_iconst (pc := 32) hX dX6_node_32 ?_
      exact z_iret (pc := 33) hX rfl rfl (Prod.mk.inj (Option.some.inj h)).1 (Prod.mk.inj (Option.some.inj h)).2 dX6_node_33
def rmX6_odds : Room := { frames := 4, cells := 0, slots := 0, locals := 97 }
set_option maxRecDepth 20000 in
set_option maxHeartbeats 4000000 in
theorem wX6_odds_L62 {X : zXT} {l : Launch} {D : va_G} {ca : Nat → ClassId} {ad : Nat → Nat} (hG : zGok (zGM D ca ad)) {a1 : Int} {a2 : Int} {a3 : Int}  {r0 : Int} {m0 : zM} {k5 : Int} (hX : zC X l rmX6_odds (zGM D ca ad) (some (.int (zI r0))) m0 cX6_odds 9 RX6 (some .int)) {k : Int → Int → zM → Option (Int × zM)} (hk : ∀ (v4 : Int) (v6 : Int) (m_ : zM), k v4 v6 m_ = some (r0, m0) → zV X 9 m_ 96 [(0, .ref (ad 0)), (1, .int (zI a1)), (2, .int (zI a2)), (3, .int (zI a3)), (4, .int (zI v4)), (5, .int (zI k5)), (6, .int (zI v6))] []) : ∀ (n : Nat) (v4 : Int) (v6 : Int) (m_ : zM), FX6_odds_L62 a1 a2 a3 k5 k n v4 v6 m_ = some (r0, m0) → zV X 9 m_ 62 [(0, .ref (ad 0)), (1, .int (zI a1)), (2, .int (zI a2)), (3, .int (zI a3)), (4, .int (zI v4)), (5, .int (zI k5)), (6, .int (zI v6))] [] := by
  intro n
  induction n with
  | zero => intro v4 v6 m_ h; cases h
  | succ n ih =>
    intro v4 v6 m_ h
    replace h : FX6_odds_L62_B a1 a2 a3 k5 k (FX6_odds_L62 a1 a2 a3 k5 k n) v4 v6 m_ = some (r0, m0) := h
    unfold FX6_odds_L62_B at h
    refine z_iload (pc := 62) hX 6 dX6_odds_62 rfl ?_
    refine z_iload (pc := 64) hX 5 dX6_odds_64 rfl ?_
    refine z_icmp_ge (pc := 66) (tgt := 96) hX dX6_odds_66 (by decide) (fun hc10 => ?_) (fun hc10 => ?_)
    · replace h := (if_neg hc10).symm.trans h
      exact hk _ _ _ h
    · replace h := (if_pos hc10).symm.trans h
      refine z_iload (pc := 69) hX 4 dX6_odds_69 rfl ?_
      refine z_aload_n (pc := 71) hX 0 dX6_odds_71 rfl rfl ?_
      refine z_iload_n (pc := 72) hX 1 dX6_odds_72 rfl rfl ?_
      refine z_iload (pc := 73) hX 6 dX6_odds_73 rfl ?_
      obtain ⟨r8, m8, hr8, h⟩ := zcl2_s h
      refine z_callVr (pc := 75) (c := 0) hX [.int (zI a1), .int (zI v6)] [.int (zI v4)] (wX6_more (ca := ca) hG  hr8) rfl zmv_RX6_147 (Nat.le_of_ble_eq_true rfl) (zMod_e (ca := ca) (f := m_ 0)) rfl rfl ⟨rfl, rfl⟩ ⟨by decide, by decide⟩ (Nat.le_of_ble_eq_true rfl) dX6_odds_75 ?_
      refine z_iload_n (pc := 78) hX 2 dX6_odds_78 rfl rfl ?_
      refine z_icmp_lt (pc := 79) (tgt := 86) hX dX6_odds_79 (by decide) (fun hc9 => ?_) (fun hc9 => ?_)
      · replace h := (if_pos hc9).symm.trans h
        refine z_iconst (pc := 86) hX dX6_odds_86 ?_
        refine z_iadd (pc := 87) hX dX6_odds_87 ?_
        refine z_istore (pc := 88) (lv' := [(4, .int (zI (v4 + 0))), (0, .ref (ad 0)), (1, .int (zI a1)), (2, .int (zI a2)), (3, .int (zI a3)), (5, .int (zI k5)), (6, .int (zI v6))]) hX dX6_odds_88 (by decide) rfl ?_
        refine z_iinc (pc := 90) (lv' := [(6, .int (zI (v6 + 1))), (4, .int (zI (v4 + 0))), (0, .ref (ad 0)), (1, .int (zI a1)), (2, .int (zI a2)), (3, .int (zI a3)), (5, .int (zI k5))]) hX 6 dX6_odds_90 rfl (by decide) rfl ?_
        refine z_goto (pc := 93) (tgt := 62) hX dX6_odds_93 (by decide) ?_
        refine z_sub [2, 3, 4, 5, 1, 6, 0] rfl ?_
        exact ih _ _ _ h
      · replace h := (if_neg hc9).symm.trans h
        refine z_iconst (pc := 82) hX dX6_odds_82 ?_
        refine z_goto (pc := 83) (tgt := 87) hX dX6_odds_83 (by decide) ?_
        refine z_iadd (pc := 87) hX dX6_odds_87 ?_
        refine z_istore (pc := 88) (lv' := [(4, .int (zI (v4 + 1))), (0, .ref (ad 0)), (1, .int (zI a1)), (2, .int (zI a2)), (3, .int (zI a3)), (5, .int (zI k5)), (6, .int (zI v6))]) hX dX6_odds_88 (by decide) rfl ?_
        refine z_iinc (pc := 90) (lv' := [(6, .int (zI (v6 + 1))), (4, .int (zI (v4 + 1))), (0, .ref (ad 0)), (1, .int (zI a1)), (2, .int (zI a2)), (3, .int (zI a3)), (5, .int (zI k5))]) hX 6 dX6_odds_90 rfl (by decide) rfl ?_
        refine z_goto (pc := 93) (tgt := 62) hX dX6_odds_93 (by decide) ?_
        refine z_sub [2, 3, 4, 5, 1, 6, 0] rfl ?_
        exact ih _ _ _ h
set_option maxRecDepth 20000 in
set_option maxHeartbeats 4000000 in
theorem wX6_odds_L104 {X : zXT} {l : Launch} {D : va_G} {ca : Nat → ClassId} {ad : Nat → Nat} (hG : zGok (zGM D ca ad)) {a1 : Int} {a2 : Int} {a3 : Int}  {r0 : Int} {m0 : zM} {mc : zM} {k4 : Int} {k5 : Int} (hX : zC X l rmX6_odds (zGM D ca ad) (some (.int (zI r0))) m0 cX6_odds 9 RX6 (some .int)) {k : Int → Int → Option (Int × zM)} (hk : ∀ (v6 : Int) (v7 : Int), k v6 v7 = some (r0, m0) → zV X 9 mc 127 [(3, .int (zI a3)), (4, .int (zI k4)), (5, .int (zI k5)), (6, .int (zI v6)), (7, .int (zI v7))] []) : ∀ (n : Nat) (v6 : Int) (v7 : Int), FX6_odds_L104 a1 a2 a3 k4 k5 mc k n v6 v7 = some (r0, m0) → zV X 9 mc 104 [(3, .int (zI a3)), (4, .int (zI k4)), (5, .int (zI k5)), (6, .int (zI v6)), (7, .int (zI v7))] [] := by
  intro n
  induction n with
  | zero => intro v6 v7 h; cases h
  | succ n ih =>
    intro v6 v7 h
    replace h : FX6_odds_L104_B a1 a2 a3 k4 k5 mc k (FX6_odds_L104 a1 a2 a3 k4 k5 mc k n) v6 v7 = some (r0, m0) := h
    unfold FX6_odds_L104_B at h
    refine z_iload (pc := 104) hX 4 dX6_odds_104 rfl ?_
    refine z_if_le (pc := 106) (tgt := 127) hX dX6_odds_106 (by decide) (fun hc12 => ?_) (fun hc12 => ?_)
    · replace h := (if_neg hc12).symm.trans h
      exact hk _ _ h
    · replace h := (if_pos hc12).symm.trans h
      refine z_iload (pc := 109) hX 3 dX6_odds_109 rfl ?_
      refine z_iload (pc := 111) hX 4 dX6_odds_111 rfl ?_
      obtain ⟨g11, h⟩ := zgd_s h
      refine z_irem (pc := 113) hX g11 dX6_odds_113 ?_
      refine z_istore (pc := 114) (lv' := [(8, .int (zI (v6 % v7))), (3, .int (zI a3)), (4, .int (zI k4)), (5, .int (zI k5)), (6, .int (zI v6)), (7, .int (zI v7))]) hX dX6_odds_114 (by decide) rfl ?_
      refine z_iload (pc := 116) hX 5 dX6_odds_116 rfl ?_
      refine z_istore (pc := 118) (lv' := [(6, .int (zI v7)), (8, .int (zI (v6 % v7))), (3, .int (zI a3)), (4, .int (zI k4)), (5, .int (zI k5)), (7, .int (zI v7))]) hX dX6_odds_118 (by decide) rfl ?_
      refine z_iload (pc := 120) hX 1 dX6_odds_120 rfl ?_
      refine z_istore (pc := 122) (lv' := [(7, .int (zI (v6 % v7))), (6, .int (zI v7)), (8, .int (zI (v6 % v7))), (3, .int (zI a3)), (4, .int (zI k4)), (5, .int (zI k5))]) hX dX6_odds_122 (by decide) rfl ?_
      refine z_goto (pc := 124) (tgt := 104) hX dX6_odds_124 (by decide) ?_
      refine z_sub [3, 4, 5, 1, 0] rfl ?_
      exact ih _ _ h
set_option maxRecDepth 20000 in
set_option maxHeartbeats 4000000 in
theorem wX6_odds {l : Launch} {D : va_G} {ca : Nat → ClassId} {ad : Nat → Nat} (hG : zGok (zGM D ca ad)) {a1 : Int} {a2 : Int} {a3 : Int} {r0 : Int} {m0 : zM} {m : zM} (h : FX6_odds a1 a2 a3 m = some (r0, m0)) : zCt l (zGM D ca ad) yX6_odds cX6_odds 9 (some .int) rmX6_odds [.ref (ad 0), .int (zI a1), .int (zI a2), .int (zI a3)] m (some (.int (zI r0))) m0 := by
  unfold FX6_odds at h
  refine z_of (plainFor_of_name (by decide +kernel)) hG (Nat.le_of_ble_eq_true rfl) (fun X hX => ?_)
  show zV X 9 m 0 [(0, .ref (ad 0)), (1, .int (zI a1)), (2, .int (zI a2)), (3, .int (zI a3))] []
  refine z_iload_n (pc := 0) hX 1 dX6_odds_0 rfl rfl ?_
  obtain ⟨g1, h⟩ := zgd_s h
  refine z_i2l (pc := 1) hX g1 dX6_odds_1 ?_
  refine z_lconst (pc := 2) (a := 0) hX dX6_odds_2 (by decide +kernel) ?_
  refine z_ldc2 (pc := 3) (n := 4) hX zk_RX6_150 (by decide +kernel) dX6_odds_3 ?_
  obtain ⟨r2, hr2, h⟩ := zcl_s h
  refine z_callSr (pc := 6) hX [.long (zJ a1), .long (zJ 0), .long (zJ 4)] [] (wX6_within (ca := ca) hG  hr2) zms_RX6_90 rfl rfl ⟨rfl, rfl⟩ ⟨by decide, by decide⟩ (Nat.le_of_ble_eq_true rfl) dX6_odds_6 ?_
  refine z_if_eq (pc := 9) (tgt := 34) hX dX6_odds_9 (by decide) (fun hc19 => ?_) (fun hc19 => ?_)
  · replace h := (if_pos hc19).symm.trans h
    refine z_iconst (pc := 34) hX dX6_odds_34 ?_
    exact z_iret (pc := 35) hX rfl rfl (Prod.mk.inj (Option.some.inj h)).1 (Prod.mk.inj (Option.some.inj h)).2 dX6_odds_35
  · replace h := (if_neg hc19).symm.trans h
    refine z_iload_n (pc := 12) hX 2 dX6_odds_12 rfl rfl ?_
    obtain ⟨g3, h⟩ := zgd_s h
    refine z_i2l (pc := 13) hX g3 dX6_odds_13 ?_
    refine z_lconst (pc := 14) (a := 0) hX dX6_odds_14 (by decide +kernel) ?_
    refine z_ldc2 (pc := 15) (n := 9) hX zk_RX6_152 (by decide +kernel) dX6_odds_15 ?_
    obtain ⟨r4, hr4, h⟩ := zcl_s h
    refine z_callSr (pc := 18) hX [.long (zJ a2), .long (zJ 0), .long (zJ 9)] [] (wX6_within (ca := ca) hG  hr4) zms_RX6_90 rfl rfl ⟨rfl, rfl⟩ ⟨by decide, by decide⟩ (Nat.le_of_ble_eq_true rfl) dX6_odds_18 ?_
    refine z_if_eq (pc := 21) (tgt := 34) hX dX6_odds_21 (by decide) (fun hc18 => ?_) (fun hc18 => ?_)
    · replace h := (if_pos hc18).symm.trans h
      refine z_iconst (pc := 34) hX dX6_odds_34 ?_
      exact z_iret (pc := 35) hX rfl rfl (Prod.mk.inj (Option.some.inj h)).1 (Prod.mk.inj (Option.some.inj h)).2 dX6_odds_35
    · replace h := (if_neg hc18).symm.trans h
      refine z_iload_n (pc := 24) hX 3 dX6_odds_24 rfl rfl ?_
      obtain ⟨g5, h⟩ := zgd_s h
      refine z_i2l (pc := 25) hX g5 dX6_odds_25 ?_
      refine z_lconst (pc := 26) (a := 0) hX dX6_odds_26 (by decide +kernel) ?_
      refine z_lconst (pc := 27) (a := 1) hX dX6_odds_27 (by decide +kernel) ?_
      obtain ⟨r6, hr6, h⟩ := zcl_s h
      refine z_callSr (pc := 28) hX [.long (zJ a3), .long (zJ 0), .long (zJ 1)] [] (wX6_within (ca := ca) hG  hr6) zms_RX6_90 rfl rfl ⟨rfl, rfl⟩ ⟨by decide, by decide⟩ (Nat.le_of_ble_eq_true rfl) dX6_odds_28 ?_
      refine z_if_ne (pc := 31) (tgt := 36) hX dX6_odds_31 (by decide) (fun hc17 => ?_) (fun hc17 => ?_)
      · replace h := (if_neg hc17).symm.trans h
        refine z_aload_n (pc := 36) hX 0 dX6_odds_36 rfl rfl ?_
        refine z_get (pc := 37) (c := 0) (j := 0) (v := .int (zI (m 0 0))) hX rfl zfl_RX6_69 (Nat.le_of_ble_eq_true rfl) (zMod_e (ca := ca) (f := m 0)) rfl dX6_odds_37 ?_
        refine z_iload_n (pc := 40) hX 1 dX6_odds_40 rfl rfl ?_
        refine z_iadd (pc := 41) hX dX6_odds_41 ?_
        refine z_bipush (pc := 42) hX dX6_odds_42 (by decide +kernel) ?_
        refine z_icmp_le (pc := 44) (tgt := 50) hX dX6_odds_44 (by decide) (fun hc16 => ?_) (fun hc16 => ?_)
        · replace h := (if_neg hc16).symm.trans h
          refine z_iconst (pc := 50) hX dX6_odds_50 ?_
          refine z_istore (pc := 51) (lv' := [(4, .int (zI 0)), (0, .ref (ad 0)), (1, .int (zI a1)), (2, .int (zI a2)), (3, .int (zI a3))]) hX dX6_odds_51 (by decide) rfl ?_
          refine z_iload_n (pc := 53) hX 2 dX6_odds_53 rfl rfl ?_
          obtain ⟨r7, hr7, h⟩ := zcl_s h
          refine z_callSr (pc := 54) hX [.int (zI a1)] [] (wX6_power (ca := ca) hG  hr7) zms_RX6_142 rfl rfl ⟨rfl, rfl⟩ ⟨by decide, by decide⟩ (Nat.le_of_ble_eq_true rfl) dX6_odds_54 ?_
          refine z_istore (pc := 57) (lv' := [(5, .int (zI r7)), (4, .int (zI 0)), (0, .ref (ad 0)), (1, .int (zI a1)), (2, .int (zI a2)), (3, .int (zI a3))]) hX dX6_odds_57 (by decide) rfl ?_
          refine z_iconst (pc := 59) hX dX6_odds_59 ?_
          refine z_istore (pc := 60) (lv' := [(6, .int (zI 0)), (5, .int (zI r7)), (4, .int (zI 0)), (0, .ref (ad 0)), (1, .int (zI a1)), (2, .int (zI a2)), (3, .int (zI a3))]) hX dX6_odds_60 (by decide) rfl ?_
          refine z_sub [3, 4, 5, 6, 2, 1, 0] rfl ?_
          refine wX6_odds_L62 hG  hX (fun y62_4 y62_6 m62_ h => ?_) _ _ _ _ h
          refine z_iload (pc := 96) hX 4 dX6_odds_96 rfl ?_
          refine z_istore (pc := 98) (lv' := [(6, .int (zI y62_4)), (0, .ref (ad 0)), (1, .int (zI a1)), (2, .int (zI a2)), (3, .int (zI a3)), (4, .int (zI y62_4)), (5, .int (zI r7))]) hX dX6_odds_98 (by decide) rfl ?_
          refine z_iload (pc := 100) hX 6 dX6_odds_100 rfl ?_
          refine z_istore (pc := 102) (lv' := [(7, .int (zI r7)), (6, .int (zI y62_4)), (0, .ref (ad 0)), (1, .int (zI a1)), (2, .int (zI a2)), (3, .int (zI a3)), (4, .int (zI y62_4)), (5, .int (zI r7))]) hX dX6_odds_102 (by decide) rfl ?_
          refine z_sub [5, 6, 7, 1, 0] rfl ?_
          refine wX6_odds_L104 hG  hX (fun y104_6 y104_7 h => ?_) _ _ _ h
          refine z_iload_n (pc := 127) hX 0 dX6_odds_127 rfl rfl ?_
          refine z_if_ne (pc := 128) (tgt := 139) hX dX6_odds_128 (by decide) (fun hc15 => ?_) (fun hc15 => ?_)
          · replace h := (if_neg hc15).symm.trans h
            refine z_iload (pc := 139) hX 2 dX6_odds_139 rfl ?_
            refine z_iload (pc := 141) hX 3 dX6_odds_141 rfl ?_
            obtain ⟨g13, h⟩ := zgd_s h
            refine z_idiv (pc := 143) hX g13 dX6_odds_143 ?_
            exact z_iret (pc := 144) hX rfl rfl (Prod.mk.inj (Option.some.inj h)).1 (Prod.mk.inj (Option.some.inj h)).2 dX6_odds_144
          · replace h := (if_pos hc15).symm.trans h
            refine z_iload (pc := 131) hX 1 dX6_odds_131 rfl ?_
            refine z_iload (pc := 133) hX 3 dX6_odds_133 rfl ?_
            obtain ⟨g14, h⟩ := zgd_s h
            refine z_idiv (pc := 135) hX g14 dX6_odds_135 ?_
            refine z_goto (pc := 136) (tgt := 144) hX dX6_odds_136 (by decide) ?_
            exact z_iret (pc := 144) hX rfl rfl (Prod.mk.inj (Option.some.inj h)).1 (Prod.mk.inj (Option.some.inj h)).2 dX6_odds_144
        · replace h := (if_pos hc16).symm.trans h
          refine z_bipush (pc := 47) hX dX6_odds_47 (by decide +kernel) ?_
          exact z_iret (pc := 49) hX rfl rfl (Prod.mk.inj (Option.some.inj h)).1 (Prod.mk.inj (Option.some.inj h)).2 dX6_odds_49
      · replace h := (if_pos hc17).symm.trans h
        refine z_iconst (pc := 34) hX dX6_odds_34 ?_
        exact z_iret (pc := 35) hX rfl rfl (Prod.mk.inj (Option.some.inj h)).1 (Prod.mk.inj (Option.some.inj h)).2 dX6_odds_35
def rmX6_pop : Room := { frames := 2, cells := 0, slots := 0, locals := 46 }
set_option maxRecDepth 20000 in
set_option maxHeartbeats 4000000 in
theorem wX6_pop {l : Launch} {D : va_G} {ca : Nat → ClassId} {ad : Nat → Nat} (hG : zGok (zGM D ca ad))  {r0 : Int} {m0 : zM} {m : zM} (h : FX6_pop m = some (r0, m0)) : zCt l (zGM D ca ad) yX6_pop cX6_pop 1 (some .int) rmX6_pop [.ref (ad 0)] m (some (.int (zI r0))) m0 := by
  unfold FX6_pop at h
  refine z_of (plainFor_of_name (by decide +kernel)) hG (Nat.le_of_ble_eq_true rfl) (fun X hX => ?_)
  show zV X 1 m 0 [(0, .ref (ad 0))] []
  refine z_aload_n (pc := 0) hX 0 dX6_pop_0 rfl rfl ?_
  refine z_get (pc := 1) (c := 0) (j := 0) (v := .int (zI (m 0 0))) hX rfl zfl_RX6_69 (Nat.le_of_ble_eq_true rfl) (zMod_e (ca := ca) (f := m 0)) rfl dX6_pop_1 ?_
  refine z_if_ne (pc := 4) (tgt := 10) hX dX6_pop_4 (by decide) (fun hc5 => ?_) (fun hc5 => ?_)
  · replace h := (if_neg hc5).symm.trans h
    refine z_aload_n (pc := 10) hX 0 dX6_pop_10 rfl rfl ?_
    refine z_dup (pc := 11) hX dX6_pop_11 rfl ?_
    refine z_get (pc := 12) (c := 0) (j := 0) (v := .int (zI (m 0 0))) hX rfl zfl_RX6_69 (Nat.le_of_ble_eq_true rfl) (zMod_e (ca := ca) (f := m 0)) rfl dX6_pop_12 ?_
    refine z_iconst (pc := 15) hX dX6_pop_15 ?_
    refine z_isub (pc := 16) hX dX6_pop_16 ?_
    obtain ⟨m1, hm1, h⟩ := zpf_s h
    refine z_put (pc := 17) (c := 0) (j := 0) hX rfl zfl_RX6_69 zfi_6_0 (Nat.le_of_ble_eq_true rfl) (zMod_e (ca := ca) (f := m 0)) (Nat.le_of_ble_eq_true rfl) (zMod_p0 (ca := ca)) hm1 dX6_pop_17 ?_
    refine z_aload_n (pc := 20) hX 0 dX6_pop_20 rfl rfl ?_
    refine z_iconst (pc := 21) hX dX6_pop_21 ?_
    refine z_aload_n (pc := 22) hX 0 dX6_pop_22 rfl rfl ?_
    refine z_get (pc := 23) (c := 0) (j := 1) (v := .ref (ad 1)) hX rfl zfl_RX6_7 (Nat.le_of_ble_eq_true rfl) (zMod_e (ca := ca) (f := m1 0)) rfl dX6_pop_23 ?_
    refine z_aload_n (pc := 26) hX 0 dX6_pop_26 rfl rfl ?_
    refine z_get (pc := 27) (c := 0) (j := 0) (v := .int (zI (m1 0 0))) hX rfl zfl_RX6_69 (Nat.le_of_ble_eq_true rfl) (zMod_e (ca := ca) (f := m1 0)) rfl dX6_pop_27 ?_
    obtain ⟨x2, hx2, hi2, h⟩ := zrd_s h
    refine z_iald (pc := 30) (c := 1) hX zMi1 hi2 hx2 dX6_pop_30 ?_
    refine z_iadd (pc := 31) hX dX6_pop_31 ?_
    obtain ⟨m3, hr3, h⟩ := zcl_s h
    refine z_callVv (pc := 32) (v := .null) (c := 0) hX [.int (zI (1 + x2))] [] (wX6_note (ca := ca) hG  hr3) rfl zmv_RX6_104 (Nat.le_of_ble_eq_true rfl) (zMod_e (ca := ca) (f := m1 0)) rfl rfl ⟨rfl, rfl⟩ ⟨by decide, by decide⟩ (Nat.le_of_ble_eq_true rfl) dX6_pop_32 ?_
    refine z_bipush (pc := 35) hX dX6_pop_35 (by decide +kernel) ?_
    refine z_aload_n (pc := 37) hX 0 dX6_pop_37 rfl rfl ?_
    refine z_get (pc := 38) (c := 0) (j := 1) (v := .ref (ad 1)) hX rfl zfl_RX6_7 (Nat.le_of_ble_eq_true rfl) (zMod_e (ca := ca) (f := m3 0)) rfl dX6_pop_38 ?_
    refine z_aload_n (pc := 41) hX 0 dX6_pop_41 rfl rfl ?_
    refine z_get (pc := 42) (c := 0) (j := 0) (v := .int (zI (m3 0 0))) hX rfl zfl_RX6_69 (Nat.le_of_ble_eq_true rfl) (zMod_e (ca := ca) (f := m3 0)) rfl dX6_pop_42 ?_
    obtain ⟨x4, hx4, hi4, h⟩ := zrd_s h
    refine z_iald (pc := 45) (c := 1) hX zMi1 hi4 hx4 dX6_pop_45 ?_
    refine z_iadd (pc := 46) hX dX6_pop_46 ?_
    exact z_iret (pc := 47) hX rfl rfl (Prod.mk.inj (Option.some.inj h)).1 (Prod.mk.inj (Option.some.inj h)).2 dX6_pop_47
  · replace h := (if_pos hc5).symm.trans h
    refine z_bipush (pc := 7) hX dX6_pop_7 (by decide +kernel) ?_
    exact z_iret (pc := 9) hX rfl rfl (Prod.mk.inj (Option.some.inj h)).1 (Prod.mk.inj (Option.some.inj h)).2 dX6_pop_9
def rmX6_put : Room := { frames := 2, cells := 0, slots := 0, locals := 47 }
set_option maxRecDepth 20000 in
set_option maxHeartbeats 4000000 in
theorem wX6_put {l : Launch} {D : va_G} {ca : Nat → ClassId} {ad : Nat → Nat} (hG : zGok (zGM D ca ad)) {a1 : Int} {r0 : Int} {m0 : zM} {m : zM} (h : FX6_put a1 m = some (r0, m0)) : zCt l (zGM D ca ad) yX6_put cX6_put 2 (some .int) rmX6_put [.ref (ad 0), .int (zI a1)] m (some (.int (zI r0))) m0 := by
  unfold FX6_put at h
  refine z_of (plainFor_of_name (by decide +kernel)) hG (Nat.le_of_ble_eq_true rfl) (fun X hX => ?_)
  show zV X 2 m 0 [(0, .ref (ad 0)), (1, .int (zI a1))] []
  refine z_iload_n (pc := 0) hX 1 dX6_put_0 rfl rfl ?_
  obtain ⟨r1, hr1, h⟩ := zcl_s h
  refine z_callSr (pc := 1) hX [.int (zI a1)] [] (wX6_isLetter (ca := ca) hG  hr1) zms_RX6_101 rfl rfl ⟨rfl, rfl⟩ ⟨by decide, by decide⟩ (Nat.le_of_ble_eq_true rfl) dX6_put_1 ?_
  refine z_if_ne (pc := 4) (tgt := 9) hX dX6_put_4 (by decide) (fun hc6 => ?_) (fun hc6 => ?_)
  · replace h := (if_neg hc6).symm.trans h
    refine z_aload_n (pc := 9) hX 0 dX6_put_9 rfl rfl ?_
    refine z_get (pc := 10) (c := 0) (j := 0) (v := .int (zI (m 0 0))) hX rfl zfl_RX6_69 (Nat.le_of_ble_eq_true rfl) (zMod_e (ca := ca) (f := m 0)) rfl dX6_put_10 ?_
    refine z_bipush (pc := 13) hX dX6_put_13 (by decide +kernel) ?_
    refine z_icmp_ne (pc := 15) (tgt := 21) hX dX6_put_15 (by decide) (fun hc5 => ?_) (fun hc5 => ?_)
    · replace h := (if_neg hc5).symm.trans h
      refine z_aload_n (pc := 21) hX 0 dX6_put_21 rfl rfl ?_
      refine z_iconst (pc := 22) hX dX6_put_22 ?_
      obtain ⟨m2, hr2, h⟩ := zcl_s h
      refine z_callVv (pc := 23) (v := .null) (c := 0) hX [.int (zI 0)] [] (wX6_note (ca := ca) hG  hr2) rfl zmv_RX6_104 (Nat.le_of_ble_eq_true rfl) (zMod_e (ca := ca) (f := m 0)) rfl rfl ⟨rfl, rfl⟩ ⟨by decide, by decide⟩ (Nat.le_of_ble_eq_true rfl) dX6_put_23 ?_
      refine z_aload_n (pc := 26) hX 0 dX6_put_26 rfl rfl ?_
      refine z_iload_n (pc := 27) hX 1 dX6_put_27 rfl rfl ?_
      refine z_bipush (pc := 28) hX dX6_put_28 (by decide +kernel) ?_
      refine z_isub (pc := 30) hX dX6_put_30 ?_
      obtain ⟨m3, hr3, h⟩ := zcl_s h
      refine z_callVv (pc := 31) (v := .null) (c := 0) hX [.int (zI (a1 - 97))] [] (wX6_push (ca := ca) hG  hr3) rfl zmv_RX6_108 (Nat.le_of_ble_eq_true rfl) (zMod_e (ca := ca) (f := m2 0)) rfl rfl ⟨rfl, rfl⟩ ⟨by decide, by decide⟩ (Nat.le_of_ble_eq_true rfl) dX6_put_31 ?_
      refine z_aload_n (pc := 34) hX 0 dX6_put_34 rfl rfl ?_
      refine z_aload_n (pc := 35) hX 0 dX6_put_35 rfl rfl ?_
      refine z_get (pc := 36) (c := 0) (j := 0) (v := .int (zI (m3 0 0))) hX rfl zfl_RX6_69 (Nat.le_of_ble_eq_true rfl) (zMod_e (ca := ca) (f := m3 0)) rfl dX6_put_36 ?_
      refine z_iconst (pc := 39) hX dX6_put_39 ?_
      refine z_isub (pc := 40) hX dX6_put_40 ?_
      refine z_bipush (pc := 41) hX dX6_put_41 (by decide +kernel) ?_
      obtain ⟨r4, hr4, h⟩ := zcl_s h
      refine z_callVr (pc := 43) (c := 0) hX [.int (zI ((m3 0 0) - 1)), .int (zI 49)] [] (wX6_endsBelow (ca := ca) hG  hr4) rfl zmv_RX6_57 (Nat.le_of_ble_eq_true rfl) (zMod_e (ca := ca) (f := m3 0)) rfl rfl ⟨rfl, rfl⟩ ⟨by decide, by decide⟩ (Nat.le_of_ble_eq_true rfl) dX6_put_43 ?_
      exact z_iret (pc := 46) hX rfl rfl (Prod.mk.inj (Option.some.inj h)).1 (Prod.mk.inj (Option.some.inj h)).2 dX6_put_46
    · replace h := (if_pos hc5).symm.trans h
      refine z_bipush (pc := 18) hX dX6_put_18 (by decide +kernel) ?_
      exact z_iret (pc := 20) hX rfl rfl (Prod.mk.inj (Option.some.inj h)).1 (Prod.mk.inj (Option.some.inj h)).2 dX6_put_20
  · replace h := (if_pos hc6).symm.trans h
    refine z_iconst (pc := 7) hX dX6_put_7 ?_
    exact z_iret (pc := 8) hX rfl rfl (Prod.mk.inj (Option.some.inj h)).1 (Prod.mk.inj (Option.some.inj h)).2 dX6_put_8
def rmX6_read : Room := { frames := 2, cells := 0, slots := 0, locals := 45 }
set_option maxRecDepth 20000 in
set_option maxHeartbeats 4000000 in
theorem wX6_read_L56 {X : zXT} {l : Launch} {D : va_G} {ca : Nat → ClassId} {ad : Nat → Nat} (hG : zGok (zGM D ca ad)) {a1 : Int} {a2 : Int} {a3 : Int} {a4 : Int}  {r0 : Int} {m0 : zM} {m : zM}  (hX : zC X l rmX6_read (zGM D ca ad) (some (.int (zI r0))) m0 cX6_read 7 RX6 (some .int)) {k : Int → Option (Int × zM)} (hk : ∀ (v6 : Int), k v6 = some (r0, m0) → zV X 7 m 96 [(0, .ref (ad 0)), (1, .int (zI a1)), (3, .int (zI a3)), (4, .int (zI a4)), (6, .int (zI v6))] []) : ∀ (n : Nat) (v6 : Int), FX6_read_L56 a1 a2 a3 a4 m k n v6 = some (r0, m0) → zV X 7 m 56 [(0, .ref (ad 0)), (1, .int (zI a1)), (3, .int (zI a3)), (4, .int (zI a4)), (6, .int (zI v6))] [] := by
  intro n
  induction n with
  | zero => intro v6 h; cases h
  | succ n ih =>
    intro v6 h
    replace h : FX6_read_L56_B a1 a2 a3 a4 m k (FX6_read_L56 a1 a2 a3 a4 m k n) v6 = some (r0, m0) := h
    unfold FX6_read_L56_B at h
    refine z_iload (pc := 56) hX 4 dX6_read_56 rfl ?_
    refine z_iload (pc := 58) hX 3 dX6_read_58 rfl ?_
    refine z_icmp_ge (pc := 60) (tgt := 96) hX dX6_read_60 (by decide) (fun hc10 => ?_) (fun hc10 => ?_)
    · replace h := (if_neg hc10).symm.trans h
      exact hk _ h
    · replace h := (if_pos hc10).symm.trans h
      refine z_aload_n (pc := 63) hX 0 dX6_read_63 rfl rfl ?_
      refine z_get (pc := 64) (c := 0) (j := 10) (v := .ref (ad 8)) hX rfl zfl_RX6_31 (Nat.le_of_ble_eq_true rfl) (zMod_e (ca := ca) (f := m 0)) rfl dX6_read_64 ?_
      refine z_bipush (pc := 67) hX dX6_read_67 (by decide +kernel) ?_
      refine z_iload_n (pc := 69) hX 1 dX6_read_69 rfl rfl ?_
      refine z_imul (pc := 70) hX dX6_read_70 ?_
      refine z_iload_n (pc := 71) hX 2 dX6_read_71 rfl rfl ?_
      refine z_iadd (pc := 72) hX dX6_read_72 ?_
      refine z_iload (pc := 73) hX 4 dX6_read_73 rfl ?_
      refine z_iadd (pc := 75) hX dX6_read_75 ?_
      obtain ⟨x7, hx7, hi7, h⟩ := zrd_s h
      refine z_lald (pc := 76) (c := 8) hX zMi8 hi7 hx7 dX6_read_76 ?_
      refine z_lconst (pc := 77) (a := 0) hX dX6_read_77 (by decide +kernel) ?_
      refine z_ldc2 (pc := 78) (n := 255) hX zk_RX6_166 (by decide +kernel) dX6_read_78 ?_
      obtain ⟨r8, hr8, h⟩ := zcl_s h
      refine z_callSr (pc := 81) hX [.long (zJ x7), .long (zJ 0), .long (zJ 255)] [] (wX6_within (ca := ca) hG  hr8) zms_RX6_90 rfl rfl ⟨rfl, rfl⟩ ⟨by decide, by decide⟩ (Nat.le_of_ble_eq_true rfl) dX6_read_81 ?_
      refine z_if_ne (pc := 84) (tgt := 90) hX dX6_read_84 (by decide) (fun hc9 => ?_) (fun hc9 => ?_)
      · replace h := (if_neg hc9).symm.trans h
        refine z_iinc (pc := 90) (lv' := [(6, .int (zI (v6 + 1))), (0, .ref (ad 0)), (1, .int (zI a1)), (3, .int (zI a3)), (4, .int (zI a4))]) hX 4 dX6_read_90 rfl (by decide) rfl ?_
        refine z_goto (pc := 93) (tgt := 56) hX dX6_read_93 (by decide) ?_
        refine z_sub [1, 2, 3, 4, 0] rfl ?_
        exact ih _ h
      · replace h := (if_pos hc9).symm.trans h
        refine z_bipush (pc := 87) hX dX6_read_87 (by decide +kernel) ?_
        exact z_iret (pc := 89) hX rfl rfl (Prod.mk.inj (Option.some.inj h)).1 (Prod.mk.inj (Option.some.inj h)).2 dX6_read_89
set_option maxRecDepth 20000 in
set_option maxHeartbeats 4000000 in
theorem wX6_read_L114 {X : zXT} {l : Launch} {D : va_G} {ca : Nat → ClassId} {ad : Nat → Nat} (hG : zGok (zGM D ca ad)) {a1 : Int} {a2 : Int} {a3 : Int} {a4 : Int}  {r0 : Int} {m0 : zM}  (hX : zC X l rmX6_read (zGM D ca ad) (some (.int (zI r0))) m0 cX6_read 7 RX6 (some .int)) {k : Int → zM → Option (Int × zM)} (hk : ∀ (v6 : Int) (m_ : zM), k v6 m_ = some (r0, m0) → zV X 7 m_ 161 [(0, .ref (ad 0)), (1, .int (zI a1)), (3, .int (zI a3)), (4, .int (zI a4)), (6, .int (zI v6))] []) : ∀ (n : Nat) (v6 : Int) (m_ : zM), FX6_read_L114 a1 a2 a3 a4 k n v6 m_ = some (r0, m0) → zV X 7 m_ 114 [(0, .ref (ad 0)), (1, .int (zI a1)), (3, .int (zI a3)), (4, .int (zI a4)), (6, .int (zI v6))] [] := by
  intro n
  induction n with
  | zero => intro v6 m_ h; cases h
  | succ n ih =>
    intro v6 m_ h
    replace h : FX6_read_L114_B a1 a2 a3 a4 k (FX6_read_L114 a1 a2 a3 a4 k n) v6 m_ = some (r0, m0) := h
    unfold FX6_read_L114_B at h
    refine z_iload (pc := 114) hX 4 dX6_read_114 rfl ?_
    refine z_iload (pc := 116) hX 3 dX6_read_116 rfl ?_
    refine z_icmp_ge (pc := 118) (tgt := 161) hX dX6_read_118 (by decide) (fun hc14 => ?_) (fun hc14 => ?_)
    · replace h := (if_neg hc14).symm.trans h
      exact hk _ _ h
    · replace h := (if_pos hc14).symm.trans h
      refine z_aload_n (pc := 121) hX 0 dX6_read_121 rfl rfl ?_
      refine z_get (pc := 122) (c := 0) (j := 7) (v := .ref (ad 5)) hX rfl zfl_RX6_22 (Nat.le_of_ble_eq_true rfl) (zMod_e (ca := ca) (f := m_ 0)) rfl dX6_read_122 ?_
      refine z_aload_n (pc := 125) hX 0 dX6_read_125 rfl rfl ?_
      refine z_get (pc := 126) (c := 0) (j := 6) (v := .int (zI (m_ 0 6))) hX rfl zfl_RX6_168 (Nat.le_of_ble_eq_true rfl) (zMod_e (ca := ca) (f := m_ 0)) rfl dX6_read_126 ?_
      refine z_aload_n (pc := 129) hX 0 dX6_read_129 rfl rfl ?_
      refine z_get (pc := 130) (c := 0) (j := 10) (v := .ref (ad 8)) hX rfl zfl_RX6_31 (Nat.le_of_ble_eq_true rfl) (zMod_e (ca := ca) (f := m_ 0)) rfl dX6_read_130 ?_
      refine z_bipush (pc := 133) hX dX6_read_133 (by decide +kernel) ?_
      refine z_iload_n (pc := 135) hX 1 dX6_read_135 rfl rfl ?_
      refine z_imul (pc := 136) hX dX6_read_136 ?_
      refine z_iload_n (pc := 137) hX 2 dX6_read_137 rfl rfl ?_
      refine z_iadd (pc := 138) hX dX6_read_138 ?_
      refine z_iload (pc := 139) hX 4 dX6_read_139 rfl ?_
      refine z_iadd (pc := 141) hX dX6_read_141 ?_
      obtain ⟨x11, hx11, hi11, h⟩ := zrd_s h
      refine z_lald (pc := 142) (c := 8) hX zMi8 hi11 hx11 dX6_read_142 ?_
      refine z_l2i (pc := 143) hX dX6_read_143 ?_
      obtain ⟨m12, hm12, hi12, h⟩ := zwr_s h
      refine z_iast (pc := 144) (c := 5) hX zMi5 hi12 hm12 dX6_read_144 ?_
      refine z_aload_n (pc := 145) hX 0 dX6_read_145 rfl rfl ?_
      refine z_dup (pc := 146) hX dX6_read_146 rfl ?_
      refine z_get (pc := 147) (c := 0) (j := 6) (v := .int (zI (m12 0 6))) hX rfl zfl_RX6_168 (Nat.le_of_ble_eq_true rfl) (zMod_e (ca := ca) (f := m12 0)) rfl dX6_read_147 ?_
      refine z_iconst (pc := 150) hX dX6_read_150 ?_
      refine z_iadd (pc := 151) hX dX6_read_151 ?_
      obtain ⟨m13, hm13, h⟩ := zpf_s h
      refine z_put (pc := 152) (c := 0) (j := 6) hX rfl zfl_RX6_168 zfi_6_6 (Nat.le_of_ble_eq_true rfl) (zMod_e (ca := ca) (f := m12 0)) (Nat.le_of_ble_eq_true rfl) (zMod_p6 (ca := ca)) hm13 dX6_read_152 ?_
      refine z_iinc (pc := 155) (lv' := [(6, .int (zI (v6 + 1))), (0, .ref (ad 0)), (1, .int (zI a1)), (3, .int (zI a3)), (4, .int (zI a4))]) hX 4 dX6_read_155 rfl (by decide) rfl ?_
      refine z_goto (pc := 158) (tgt := 114) hX dX6_read_158 (by decide) ?_
      refine z_sub [1, 2, 3, 4, 0] rfl ?_
      exact ih _ _ h
set_option maxRecDepth 20000 in
set_option maxHeartbeats 4000000 in
theorem wX6_read {l : Launch} {D : va_G} {ca : Nat → ClassId} {ad : Nat → Nat} (hG : zGok (zGM D ca ad)) {a1 : Int} {a2 : Int} {a3 : Int} {a4 : Int} {r0 : Int} {m0 : zM} {m : zM} (h : FX6_read a1 a2 a3 a4 m = some (r0, m0)) : zCt l (zGM D ca ad) yX6_read cX6_read 7 (some .int) rmX6_read [.ref (ad 0), .int (zI a1), .int (zI a2), .int (zI a3), .int (zI a4)] m (some (.int (zI r0))) m0 := by
  unfold FX6_read at h
  refine z_of (plainFor_of_name (by decide +kernel)) hG (Nat.le_of_ble_eq_true rfl) (fun X hX => ?_)
  show zV X 7 m 0 [(0, .ref (ad 0)), (1, .int (zI a1)), (2, .int (zI a2)), (3, .int (zI a3)), (4, .int (zI a4))] []
  refine z_iload_n (pc := 0) hX 1 dX6_read_0 rfl rfl ?_
  obtain ⟨r1, hr1, h⟩ := zcl_s h
  refine z_callSr (pc := 1) hX [.int (zI a1)] [] (wX6_isSheet (ca := ca) hG  hr1) zms_RX6_174 rfl rfl ⟨rfl, rfl⟩ ⟨by decide, by decide⟩ (Nat.le_of_ble_eq_true rfl) dX6_read_1 ?_
  refine z_if_eq (pc := 4) (tgt := 32) hX dX6_read_4 (by decide) (fun hc19 => ?_) (fun hc19 => ?_)
  · replace h := (if_pos hc19).symm.trans h
    refine z_iconst (pc := 32) hX dX6_read_32 ?_
    exact z_iret (pc := 33) hX rfl rfl (Prod.mk.inj (Option.some.inj h)).1 (Prod.mk.inj (Option.some.inj h)).2 dX6_read_33
  · replace h := (if_neg hc19).symm.trans h
    refine z_iload_n (pc := 7) hX 2 dX6_read_7 rfl rfl ?_
    obtain ⟨g2, h⟩ := zgd_s h
    refine z_i2l (pc := 8) hX g2 dX6_read_8 ?_
    refine z_lconst (pc := 9) (a := 0) hX dX6_read_9 (by decide +kernel) ?_
    refine z_ldc2 (pc := 10) (n := 3) hX zk_RX6_145 (by decide +kernel) dX6_read_10 ?_
    obtain ⟨r3, hr3, h⟩ := zcl_s h
    refine z_callSr (pc := 13) hX [.long (zJ a2), .long (zJ 0), .long (zJ 3)] [] (wX6_within (ca := ca) hG  hr3) zms_RX6_90 rfl rfl ⟨rfl, rfl⟩ ⟨by decide, by decide⟩ (Nat.le_of_ble_eq_true rfl) dX6_read_13 ?_
    refine z_if_eq (pc := 16) (tgt := 32) hX dX6_read_16 (by decide) (fun hc18 => ?_) (fun hc18 => ?_)
    · replace h := (if_pos hc18).symm.trans h
      refine z_iconst (pc := 32) hX dX6_read_32 ?_
      exact z_iret (pc := 33) hX rfl rfl (Prod.mk.inj (Option.some.inj h)).1 (Prod.mk.inj (Option.some.inj h)).2 dX6_read_33
    · replace h := (if_neg hc18).symm.trans h
      refine z_iload (pc := 19) hX 4 dX6_read_19 rfl ?_
      obtain ⟨g4, h⟩ := zgd_s h
      refine z_i2l (pc := 21) hX g4 dX6_read_21 ?_
      refine z_lconst (pc := 22) (a := 0) hX dX6_read_22 (by decide +kernel) ?_
      refine z_ldc2 (pc := 23) (n := 48) hX zk_RX6_189 (by decide +kernel) dX6_read_23 ?_
      obtain ⟨r5, hr5, h⟩ := zcl_s h
      refine z_callSr (pc := 26) hX [.long (zJ a4), .long (zJ 0), .long (zJ 48)] [] (wX6_within (ca := ca) hG  hr5) zms_RX6_90 rfl rfl ⟨rfl, rfl⟩ ⟨by decide, by decide⟩ (Nat.le_of_ble_eq_true rfl) dX6_read_26 ?_
      refine z_if_ne (pc := 29) (tgt := 34) hX dX6_read_29 (by decide) (fun hc17 => ?_) (fun hc17 => ?_)
      · replace h := (if_neg hc17).symm.trans h
        refine z_aload_n (pc := 34) hX 0 dX6_read_34 rfl rfl ?_
        refine z_iload_n (pc := 35) hX 1 dX6_read_35 rfl rfl ?_
        refine z_iload_n (pc := 36) hX 2 dX6_read_36 rfl rfl ?_
        refine z_iload_n (pc := 37) hX 3 dX6_read_37 rfl rfl ?_
        refine z_iload (pc := 38) hX 4 dX6_read_38 rfl ?_
        obtain ⟨r6, hr6, h⟩ := zcl_s h
        refine z_callVr (pc := 40) (c := 0) hX [.int (zI a1), .int (zI a2), .int (zI a3), .int (zI a4)] [] (wX6_whyNot (ca := ca) hG  hr6) rfl zmv_RX6_181 (Nat.le_of_ble_eq_true rfl) (zMod_e (ca := ca) (f := m 0)) rfl rfl ⟨rfl, rfl⟩ ⟨by decide, by decide⟩ (Nat.le_of_ble_eq_true rfl) dX6_read_40 ?_
        refine z_istore (pc := 43) (lv' := [(5, .int (zI r6)), (0, .ref (ad 0)), (1, .int (zI a1)), (2, .int (zI a2)), (3, .int (zI a3)), (4, .int (zI a4))]) hX dX6_read_43 (by decide) rfl ?_
        refine z_iload (pc := 45) hX 0 dX6_read_45 rfl ?_
        refine z_if_eq (pc := 47) (tgt := 53) hX dX6_read_47 (by decide) (fun hc16 => ?_) (fun hc16 => ?_)
        · replace h := (if_pos hc16).symm.trans h
          refine z_iconst (pc := 53) hX dX6_read_53 ?_
          refine z_istore (pc := 54) (lv' := [(6, .int (zI 0)), (5, .int (zI r6)), (0, .ref (ad 0)), (1, .int (zI a1)), (2, .int (zI a2)), (3, .int (zI a3)), (4, .int (zI a4))]) hX dX6_read_54 (by decide) rfl ?_
          refine z_sub [2, 3, 5, 6, 0] rfl ?_
          refine wX6_read_L56 hG  hX (fun y56_6 h => ?_) _ _ h
          refine z_aload_n (pc := 96) hX 0 dX6_read_96 rfl rfl ?_
          refine z_get (pc := 97) (c := 0) (j := 6) (v := .int (zI (m 0 6))) hX rfl zfl_RX6_168 (Nat.le_of_ble_eq_true rfl) (zMod_e (ca := ca) (f := m 0)) rfl dX6_read_97 ?_
          refine z_iload (pc := 100) hX 3 dX6_read_100 rfl ?_
          refine z_iadd (pc := 102) hX dX6_read_102 ?_
          refine z_bipush (pc := 103) hX dX6_read_103 (by decide +kernel) ?_
          refine z_icmp_le (pc := 105) (tgt := 111) hX dX6_read_105 (by decide) (fun hc15 => ?_) (fun hc15 => ?_)
          · replace h := (if_neg hc15).symm.trans h
            refine z_iconst (pc := 111) hX dX6_read_111 ?_
            refine z_istore (pc := 112) (lv' := [(6, .int (zI 0)), (0, .ref (ad 0)), (1, .int (zI a1)), (3, .int (zI a3)), (4, .int (zI a4))]) hX dX6_read_112 (by decide) rfl ?_
            refine z_sub [1, 2, 3, 4, 0] rfl ?_
            refine wX6_read_L114 hG  hX (fun y114_6 m114_ h => ?_) _ _ _ h
            refine z_aload_n (pc := 161) hX 0 dX6_read_161 rfl rfl ?_
            refine z_get (pc := 162) (c := 0) (j := 6) (v := .int (zI (m114_ 0 6))) hX rfl zfl_RX6_168 (Nat.le_of_ble_eq_true rfl) (zMod_e (ca := ca) (f := m114_ 0)) rfl dX6_read_162 ?_
            exact z_iret (pc := 165) hX rfl rfl (Prod.mk.inj (Option.some.inj h)).1 (Prod.mk.inj (Option.some.inj h)).2 dX6_read_165
          · replace h := (if_pos hc15).symm.trans h
            refine z_bipush (pc := 108) hX dX6_read_108 (by decide +kernel) ?_
            exact z_iret (pc := 110) hX rfl rfl (Prod.mk.inj (Option.some.inj h)).1 (Prod.mk.inj (Option.some.inj h)).2 dX6_read_110
        · replace h := (if_neg hc16).symm.trans h
          refine z_iload (pc := 50) hX 0 dX6_read_50 rfl ?_
          exact z_iret (pc := 52) hX rfl rfl (Prod.mk.inj (Option.some.inj h)).1 (Prod.mk.inj (Option.some.inj h)).2 dX6_read_52
      · replace h := (if_pos hc17).symm.trans h
        refine z_iconst (pc := 32) hX dX6_read_32 ?_
        exact z_iret (pc := 33) hX rfl rfl (Prod.mk.inj (Option.some.inj h)).1 (Prod.mk.inj (Option.some.inj h)).2 dX6_read_33
