def rmX2_reachFrom : Room := { frames := 0, cells := 0, slots := 0, locals := 0 }
set_option maxRecDepth 20000 in
set_option maxHeartbeats 4000000 in
theorem wX2_reachFrom_L29 {X : zXT} {l : Launch} {D : va_G} {ca : Nat → ClassId} {ad : Nat → Nat} (hG : zGok (zGC D ca ad)) {a1 : Int} {o2 : Nat} (h2 : zCat o2) {a3 : Int}  {m0 : zM} {k4 : Int} (hX : zC X l rmX2_reachFrom (zGC D ca ad) none m0 cX2_reachFrom 10 RX2 none) {k : Int → Int → zM → Option (zM)} (hk : ∀ (v5 : Int) (v6 : Int) (m_ : zM), k v5 v6 m_ = some m0 → zV X 10 m_ 117 [(0, .ref (ad 25)), (1, .int (zI a1)), (2, .ref (ad o2)), (3, .int (zI a3)), (4, .int (zI k4)), (5, .int (zI v5)), (6, .int (zI v6))] []) : ∀ (n : Nat) (v5 : Int) (v6 : Int) (m_ : zM), FX2_reachFrom_L29 a1 o2 a3 k4 k n v5 v6 m_ = some m0 → zV X 10 m_ 29 [(0, .ref (ad 25)), (1, .int (zI a1)), (2, .ref (ad o2)), (3, .int (zI a3)), (4, .int (zI k4)), (5, .int (zI v5)), (6, .int (zI v6))] [] := by
  intro n
  induction n with
  | zero => intro v5 v6 m_ h; cases h
  | succ n ih =>
    intro v5 v6 m_ h
    replace h : FX2_reachFrom_L29_B a1 o2 a3 k4 k (FX2_reachFrom_L29 a1 o2 a3 k4 k n) v5 v6 m_ = some m0 := h
    unfold FX2_reachFrom_L29_B at h
    refine z_iload (pc := 29) hX 6 dX2_reachFrom_29 rfl ?_
    refine z_if_le (pc := 31) (tgt := 117) hX dX2_reachFrom_31 (by decide) (fun hc16 => ?_) (fun hc16 => ?_)
    · replace h := (if_neg hc16).symm.trans h
      exact hk _ _ _ h
    · replace h := (if_pos hc16).symm.trans h
      refine z_aload_n (pc := 34) hX 2 dX2_reachFrom_34 rfl rfl ?_
      refine z_get (pc := 35) (c := o2) (j := 2) (v := .ref (ad (o2 + 3))) hX rfl zfl_RX2_36 (zCat_lt h2) (zCat_e (ca := ca) (f := m_ o2) h2) rfl dX2_reachFrom_35 ?_
      refine z_iload (pc := 38) hX 5 dX2_reachFrom_38 rfl ?_
      obtain ⟨x4, hx4, hi4, h⟩ := zrd_s h
      refine z_iald (pc := 40) (c := (o2 + 3)) hX (zCat_a3 h2) hi4 hx4 dX2_reachFrom_40 ?_
      refine z_istore (pc := 41) (lv' := [(7, .int (zI x4)), (0, .ref (ad 25)), (1, .int (zI a1)), (2, .ref (ad o2)), (3, .int (zI a3)), (4, .int (zI k4)), (5, .int (zI v5)), (6, .int (zI v6))]) hX dX2_reachFrom_41 (by decide) rfl ?_
      refine z_iload_n (pc := 43) hX 2 dX2_reachFrom_43 rfl rfl ?_
      refine z_iload (pc := 44) hX 0 dX2_reachFrom_44 rfl ?_
      refine z_isub (pc := 46) hX dX2_reachFrom_46 ?_
      refine z_istore (pc := 47) (lv' := [(8, .int (zI (a1 - x4))), (7, .int (zI x4)), (0, .ref (ad 25)), (1, .int (zI a1)), (2, .ref (ad o2)), (3, .int (zI a3)), (4, .int (zI k4)), (5, .int (zI v5)), (6, .int (zI v6))]) hX dX2_reachFrom_47 (by decide) rfl ?_
      refine z_iload_n (pc := 49) hX 5 dX2_reachFrom_49 rfl rfl ?_
      obtain ⟨j65, hj65, h⟩ := zjn_s h (fun (j : Int → Option (zM)) => ∀ (s65_0 : Int), j s65_0 = some m0 → zV X 10 m_ 65 [(0, .ref (ad 25)), (1, .int (zI a1)), (2, .ref (ad o2)), (3, .int (zI a3)), (4, .int (zI k4)), (5, .int (zI v5)), (6, .int (zI v6)), (7, .int (zI x4)), (8, .int (zI (a1 - x4)))] [.int (zI s65_0)]) (fun s65_0 h => by
          refine z_istore (pc := 65) (lv' := [(9, .int (zI s65_0)), (0, .ref (ad 25)), (1, .int (zI a1)), (2, .ref (ad o2)), (3, .int (zI a3)), (4, .int (zI k4)), (5, .int (zI v5)), (6, .int (zI v6)), (7, .int (zI x4)), (8, .int (zI (a1 - x4)))]) hX dX2_reachFrom_65 (by decide) rfl ?_
          refine z_iload (pc := 67) hX 0 dX2_reachFrom_67 rfl ?_
          refine z_if_eq (pc := 69) (tgt := 102) hX dX2_reachFrom_69 (by decide) (fun hc12 => ?_) (fun hc12 => ?_)
          · replace h := (if_pos hc12).symm.trans h
            refine z_aload_n (pc := 102) hX 3 dX2_reachFrom_102 rfl rfl ?_
            refine z_get (pc := 103) (c := o2) (j := 3) (v := .ref (ad (o2 + 4))) hX rfl zfl_RX2_39 (zCat_lt h2) (zCat_e (ca := ca) (f := m_ o2) h2) rfl dX2_reachFrom_103 ?_
            refine z_iload (pc := 106) hX 6 dX2_reachFrom_106 rfl ?_
            obtain ⟨x5, hx5, hi5, h⟩ := zrd_s h
            refine z_iald (pc := 108) (c := (o2 + 4)) hX (zCat_a4 h2) hi5 hx5 dX2_reachFrom_108 ?_
            refine z_istore (pc := 109) (lv' := [(5, .int (zI x5)), (9, .int (zI s65_0)), (0, .ref (ad 25)), (1, .int (zI a1)), (2, .ref (ad o2)), (3, .int (zI a3)), (4, .int (zI k4)), (6, .int (zI v6)), (7, .int (zI x4)), (8, .int (zI (a1 - x4)))]) hX dX2_reachFrom_109 (by decide) rfl ?_
            refine z_iinc (pc := 111) (lv' := [(6, .int (zI (v6 + -1))), (5, .int (zI x5)), (9, .int (zI s65_0)), (0, .ref (ad 25)), (1, .int (zI a1)), (2, .ref (ad o2)), (3, .int (zI a3)), (4, .int (zI k4)), (7, .int (zI x4)), (8, .int (zI (a1 - x4)))]) hX 7 dX2_reachFrom_111 rfl (by decide) rfl ?_
            refine z_goto (pc := 114) (tgt := 29) hX dX2_reachFrom_114 (by decide) ?_
            refine z_sub [3, 4, 5, 6, 7, 1, 0] rfl ?_
            exact ih _ _ _ h
          · replace h := (if_neg hc12).symm.trans h
            refine z_iload (pc := 72) hX 5 dX2_reachFrom_72 rfl ?_
            refine z_aload_n (pc := 74) hX 1 dX2_reachFrom_74 rfl rfl ?_
            refine z_get (pc := 75) (c := 25) (j := 0) (v := .ref (ad 26)) hX rfl zfl_RX2_9 (Nat.le_of_ble_eq_true rfl) (zCut_e (ca := ca) (f := m_ 25)) rfl dX2_reachFrom_75 ?_
            refine z_iload (pc := 78) hX 9 dX2_reachFrom_78 rfl ?_
            obtain ⟨x6, hx6, hi6, h⟩ := zrd_s h
            refine z_iald (pc := 80) (c := 26) hX zCi26 hi6 hx6 dX2_reachFrom_80 ?_
            refine z_icmp_gt (pc := 81) (tgt := 102) hX dX2_reachFrom_81 (by decide) (fun hc11 => ?_) (fun hc11 => ?_)
            · replace h := (if_pos hc11).symm.trans h
              refine z_aload_n (pc := 102) hX 3 dX2_reachFrom_102 rfl rfl ?_
              refine z_get (pc := 103) (c := o2) (j := 3) (v := .ref (ad (o2 + 4))) hX rfl zfl_RX2_39 (zCat_lt h2) (zCat_e (ca := ca) (f := m_ o2) h2) rfl dX2_reachFrom_103 ?_
              refine z_iload (pc := 106) hX 6 dX2_reachFrom_106 rfl ?_
              obtain ⟨x7, hx7, hi7, h⟩ := zrd_s h
              refine z_iald (pc := 108) (c := (o2 + 4)) hX (zCat_a4 h2) hi7 hx7 dX2_reachFrom_108 ?_
              refine z_istore (pc := 109) (lv' := [(5, .int (zI x7)), (9, .int (zI s65_0)), (0, .ref (ad 25)), (1, .int (zI a1)), (2, .ref (ad o2)), (3, .int (zI a3)), (4, .int (zI k4)), (6, .int (zI v6)), (7, .int (zI x4)), (8, .int (zI (a1 - x4)))]) hX dX2_reachFrom_109 (by decide) rfl ?_
              refine z_iinc (pc := 111) (lv' := [(6, .int (zI (v6 + -1))), (5, .int (zI x7)), (9, .int (zI s65_0)), (0, .ref (ad 25)), (1, .int (zI a1)), (2, .ref (ad o2)), (3, .int (zI a3)), (4, .int (zI k4)), (7, .int (zI x4)), (8, .int (zI (a1 - x4)))]) hX 7 dX2_reachFrom_111 rfl (by decide) rfl ?_
              refine z_goto (pc := 114) (tgt := 29) hX dX2_reachFrom_114 (by decide) ?_
              refine z_sub [3, 4, 5, 6, 7, 1, 0] rfl ?_
              exact ih _ _ _ h
            · replace h := (if_neg hc11).symm.trans h
              refine z_aload_n (pc := 84) hX 1 dX2_reachFrom_84 rfl rfl ?_
              refine z_get (pc := 85) (c := 25) (j := 0) (v := .ref (ad 26)) hX rfl zfl_RX2_9 (Nat.le_of_ble_eq_true rfl) (zCut_e (ca := ca) (f := m_ 25)) rfl dX2_reachFrom_85 ?_
              refine z_iload (pc := 88) hX 9 dX2_reachFrom_88 rfl ?_
              refine z_iload (pc := 90) hX 5 dX2_reachFrom_90 rfl ?_
              obtain ⟨m8, hm8, hi8, h⟩ := zwr_s h
              refine z_iast (pc := 92) (c := 26) hX zCi26 hi8 hm8 dX2_reachFrom_92 ?_
              refine z_aload_n (pc := 93) hX 1 dX2_reachFrom_93 rfl rfl ?_
              refine z_get (pc := 94) (c := 25) (j := 1) (v := .ref (ad 27)) hX rfl zfl_RX2_15 (Nat.le_of_ble_eq_true rfl) (zCut_e (ca := ca) (f := m8 25)) rfl dX2_reachFrom_94 ?_
              refine z_iload (pc := 97) hX 9 dX2_reachFrom_97 rfl ?_
              refine z_iload (pc := 99) hX 8 dX2_reachFrom_99 rfl ?_
              obtain ⟨m9, hm9, hi9, h⟩ := zwr_s h
              refine z_iast (pc := 101) (c := 27) hX zCi27 hi9 hm9 dX2_reachFrom_101 ?_
              refine z_aload_n (pc := 102) hX 3 dX2_reachFrom_102 rfl rfl ?_
              refine z_get (pc := 103) (c := o2) (j := 3) (v := .ref (ad (o2 + 4))) hX rfl zfl_RX2_39 (zCat_lt h2) (zCat_e (ca := ca) (f := m9 o2) h2) rfl dX2_reachFrom_103 ?_
              refine z_iload (pc := 106) hX 6 dX2_reachFrom_106 rfl ?_
              obtain ⟨x10, hx10, hi10, h⟩ := zrd_s h
              refine z_iald (pc := 108) (c := (o2 + 4)) hX (zCat_a4 h2) hi10 hx10 dX2_reachFrom_108 ?_
              refine z_istore (pc := 109) (lv' := [(5, .int (zI x10)), (9, .int (zI s65_0)), (0, .ref (ad 25)), (1, .int (zI a1)), (2, .ref (ad o2)), (3, .int (zI a3)), (4, .int (zI k4)), (6, .int (zI v6)), (7, .int (zI x4)), (8, .int (zI (a1 - x4)))]) hX dX2_reachFrom_109 (by decide) rfl ?_
              refine z_iinc (pc := 111) (lv' := [(6, .int (zI (v6 + -1))), (5, .int (zI x10)), (9, .int (zI s65_0)), (0, .ref (ad 25)), (1, .int (zI a1)), (2, .ref (ad o2)), (3, .int (zI a3)), (4, .int (zI k4)), (7, .int (zI x4)), (8, .int (zI (a1 - x4)))]) hX 7 dX2_reachFrom_111 rfl (by decide) rfl ?_
              refine z_goto (pc := 114) (tgt := 29) hX dX2_reachFrom_114 (by decide) ?_
              refine z_sub [3, 4, 5, 6, 7, 1, 0] rfl ?_
              exact ih _ _ _ h
          )
      refine z_if_eq (pc := 50) (tgt := 60) hX dX2_reachFrom_50 (by decide) (fun hc15 => ?_) (fun hc15 => ?_)
      · replace h := (if_pos hc15).symm.trans h
        refine z_iconst (pc := 60) hX dX2_reachFrom_60 ?_
        refine z_goto (pc := 61) (tgt := 65) hX dX2_reachFrom_61 (by decide) ?_
        refine z_sub [2, 3, 4, 5, 6, 7, 8, 1, 0] rfl ?_
        exact hj65 _ h
      · replace h := (if_neg hc15).symm.trans h
        refine z_iload (pc := 53) hX 1 dX2_reachFrom_53 rfl ?_
        refine z_iconst (pc := 55) hX dX2_reachFrom_55 ?_
        obtain ⟨g13, h⟩ := zgd_s h
        refine z_irem (pc := 56) hX g13 dX2_reachFrom_56 ?_
        refine z_if_ne (pc := 57) (tgt := 64) hX dX2_reachFrom_57 (by decide) (fun hc14 => ?_) (fun hc14 => ?_)
        · replace h := (if_neg hc14).symm.trans h
          refine z_iconst (pc := 64) hX dX2_reachFrom_64 ?_
          refine z_sub [2, 3, 4, 5, 6, 7, 8, 1, 0] rfl ?_
          exact hj65 _ h
        · replace h := (if_pos hc14).symm.trans h
          refine z_iconst (pc := 60) hX dX2_reachFrom_60 ?_
          refine z_goto (pc := 61) (tgt := 65) hX dX2_reachFrom_61 (by decide) ?_
          refine z_sub [2, 3, 4, 5, 6, 7, 8, 1, 0] rfl ?_
          exact hj65 _ h
set_option maxRecDepth 20000 in
set_option maxHeartbeats 4000000 in
theorem wX2_reachFrom {l : Launch} {D : va_G} {ca : Nat → ClassId} {ad : Nat → Nat} (hG : zGok (zGC D ca ad)) {a1 : Int} {o2 : Nat} (h2 : zCat o2) {a3 : Int} {m0 : zM} {m : zM} (h : FX2_reachFrom a1 o2 a3 m = some m0) : zCt l (zGC D ca ad) yX2_reachFrom cX2_reachFrom 10 none rmX2_reachFrom [.ref (ad 25), .int (zI a1), .ref (ad o2), .int (zI a3)] m none m0 := by
  unfold FX2_reachFrom at h
  refine z_of (plainFor_of_name (by decide +kernel)) hG (Nat.le_of_ble_eq_true rfl) (fun X hX => ?_)
  show zV X 10 m 0 [(0, .ref (ad 25)), (1, .int (zI a1)), (2, .ref (ad o2)), (3, .int (zI a3))] []
  refine z_aload_n (pc := 0) hX 0 dX2_reachFrom_0 rfl rfl ?_
  refine z_get (pc := 1) (c := 25) (j := 0) (v := .ref (ad 26)) hX rfl zfl_RX2_9 (Nat.le_of_ble_eq_true rfl) (zCut_e (ca := ca) (f := m 25)) rfl dX2_reachFrom_1 ?_
  refine z_iload_n (pc := 4) hX 1 dX2_reachFrom_4 rfl rfl ?_
  obtain ⟨x1, hx1, hi1, h⟩ := zrd_s h
  refine z_iald (pc := 5) (c := 26) hX zCi26 hi1 hx1 dX2_reachFrom_5 ?_
  refine z_iconst (pc := 6) hX dX2_reachFrom_6 ?_
  refine z_iadd (pc := 7) hX dX2_reachFrom_7 ?_
  refine z_istore (pc := 8) (lv' := [(4, .int (zI (x1 + 1))), (0, .ref (ad 25)), (1, .int (zI a1)), (2, .ref (ad o2)), (3, .int (zI a3))]) hX dX2_reachFrom_8 (by decide) rfl ?_
  refine z_aload_n (pc := 10) hX 3 dX2_reachFrom_10 rfl rfl ?_
  refine z_get (pc := 11) (c := o2) (j := 1) (v := .ref (ad (o2 + 2))) hX rfl zfl_RX2_28 (zCat_lt h2) (zCat_e (ca := ca) (f := m o2) h2) rfl dX2_reachFrom_11 ?_
  refine z_iload_n (pc := 14) hX 2 dX2_reachFrom_14 rfl rfl ?_
  refine z_iconst (pc := 15) hX dX2_reachFrom_15 ?_
  refine z_isub (pc := 16) hX dX2_reachFrom_16 ?_
  obtain ⟨x2, hx2, hi2, h⟩ := zrd_s h
  refine z_iald (pc := 17) (c := (o2 + 2)) hX (zCat_a2 h2) hi2 hx2 dX2_reachFrom_17 ?_
  refine z_istore (pc := 18) (lv' := [(5, .int (zI x2)), (4, .int (zI (x1 + 1))), (0, .ref (ad 25)), (1, .int (zI a1)), (2, .ref (ad o2)), (3, .int (zI a3))]) hX dX2_reachFrom_18 (by decide) rfl ?_
  refine z_aload_n (pc := 20) hX 4 dX2_reachFrom_20 rfl rfl ?_
  refine z_get (pc := 21) (c := o2) (j := 7) (v := .ref (ad (o2 + 8))) hX rfl zfl_RX2_33 (zCat_lt h2) (zCat_e (ca := ca) (f := m o2) h2) rfl dX2_reachFrom_21 ?_
  refine z_iload (pc := 24) hX 0 dX2_reachFrom_24 rfl ?_
  obtain ⟨x3, hx3, hi3, h⟩ := zrd_s h
  refine z_iald (pc := 26) (c := (o2 + 8)) hX (zCat_a8 h2) hi3 hx3 dX2_reachFrom_26 ?_
  refine z_istore (pc := 27) (lv' := [(6, .int (zI x3)), (5, .int (zI x2)), (4, .int (zI (x1 + 1))), (0, .ref (ad 25)), (1, .int (zI a1)), (2, .ref (ad o2)), (3, .int (zI a3))]) hX dX2_reachFrom_27 (by decide) rfl ?_
  refine z_sub [3, 4, 5, 6, 2, 1, 0] rfl ?_
  refine wX2_reachFrom_L29 hG h2 hX (fun y29_5 y29_6 m29_ h => ?_) _ _ _ _ h
  exact z_vret (pc := 117) hX rfl rfl (Option.some.inj h) dX2_reachFrom_117
def rmX2_cut : Room := { frames := 1, cells := 0, slots := 0, locals := 29 }
set_option maxRecDepth 20000 in
set_option maxHeartbeats 4000000 in
theorem wX2_cut_L20 {X : zXT} {l : Launch} {D : va_G} {ca : Nat → ClassId} {ad : Nat → Nat} (hG : zGok (zGC D ca ad)) {o1 : Nat} (h1 : zCat o1) {a2 : Int} {a3 : Int}  {m0 : zM}  (hX : zC X l rmX2_cut (zGC D ca ad) none m0 cX2_cut 5 RX2 none) {k : Int → zM → Option (zM)} (hk : ∀ (v4 : Int) (m_ : zM), k v4 m_ = some m0 → zV X 5 m_ 52 [(0, .ref (ad 25)), (1, .ref (ad o1)), (3, .int (zI a3)), (4, .int (zI v4))] []) : ∀ (n : Nat) (v4 : Int) (m_ : zM), FX2_cut_L20 o1 a2 a3 k n v4 m_ = some m0 → zV X 5 m_ 20 [(0, .ref (ad 25)), (1, .ref (ad o1)), (3, .int (zI a3)), (4, .int (zI v4))] [] := by
  intro n
  induction n with
  | zero => intro v4 m_ h; cases h
  | succ n ih =>
    intro v4 m_ h
    replace h : FX2_cut_L20_B o1 a2 a3 k (FX2_cut_L20 o1 a2 a3 k n) v4 m_ = some m0 := h
    unfold FX2_cut_L20_B at h
    refine z_iload (pc := 20) hX 3 dX2_cut_20 rfl ?_
    refine z_if_le (pc := 22) (tgt := 52) hX dX2_cut_22 (by decide) (fun hc6 => ?_) (fun hc6 => ?_)
    · replace h := (if_neg hc6).symm.trans h
      exact hk _ _ h
    · replace h := (if_pos hc6).symm.trans h
      refine z_aload_n (pc := 25) hX 0 dX2_cut_25 rfl rfl ?_
      refine z_get (pc := 26) (c := 25) (j := 0) (v := .ref (ad 26)) hX rfl zfl_RX2_9 (Nat.le_of_ble_eq_true rfl) (zCut_e (ca := ca) (f := m_ 25)) rfl dX2_cut_26 ?_
      refine z_iload (pc := 29) hX 3 dX2_cut_29 rfl ?_
      obtain ⟨x3, hx3, hi3, h⟩ := zrd_s h
      refine z_iald (pc := 31) (c := 26) hX zCi26 hi3 hx3 dX2_cut_31 ?_
      refine z_sipush (pc := 32) hX dX2_cut_32 (by decide +kernel) ?_
      refine z_icmp_ge (pc := 35) (tgt := 46) hX dX2_cut_35 (by decide) (fun hc5 => ?_) (fun hc5 => ?_)
      · replace h := (if_neg hc5).symm.trans h
        refine z_iinc (pc := 46) (lv' := [(4, .int (zI (v4 + -1))), (0, .ref (ad 25)), (1, .ref (ad o1)), (3, .int (zI a3))]) hX 3 dX2_cut_46 rfl (by decide) rfl ?_
        refine z_goto (pc := 49) (tgt := 20) hX dX2_cut_49 (by decide) ?_
        refine z_sub [1, 2, 3, 0] rfl ?_
        exact ih _ _ h
      · replace h := (if_pos hc5).symm.trans h
        refine z_aload_n (pc := 38) hX 0 dX2_cut_38 rfl rfl ?_
        refine z_iload (pc := 39) hX 3 dX2_cut_39 rfl ?_
        refine z_aload_n (pc := 41) hX 1 dX2_cut_41 rfl rfl ?_
        refine z_iload_n (pc := 42) hX 2 dX2_cut_42 rfl rfl ?_
        obtain ⟨m4, hr4, h⟩ := zcl_s h
        refine z_callVv (pc := 43) (v := .null) (c := 25) hX [.int (zI v4), .ref (ad o1), .int (zI a3)] [] (wX2_reachFrom (ca := ca) hG h1 hr4) rfl zmv_RX2_24 (Nat.le_of_ble_eq_true rfl) (zCut_e (ca := ca) (f := m_ 25)) rfl rfl ⟨rfl, rfl⟩ ⟨by decide, by decide⟩ (Nat.le_of_ble_eq_true rfl) dX2_cut_43 ?_
        refine z_iinc (pc := 46) (lv' := [(4, .int (zI (v4 + -1))), (0, .ref (ad 25)), (1, .ref (ad o1)), (3, .int (zI a3))]) hX 3 dX2_cut_46 rfl (by decide) rfl ?_
        refine z_goto (pc := 49) (tgt := 20) hX dX2_cut_49 (by decide) ?_
        refine z_sub [1, 2, 3, 0] rfl ?_
        exact ih _ _ h
set_option maxRecDepth 20000 in
set_option maxHeartbeats 4000000 in
theorem wX2_cut {l : Launch} {D : va_G} {ca : Nat → ClassId} {ad : Nat → Nat} (hG : zGok (zGC D ca ad)) {o1 : Nat} (h1 : zCat o1) {a2 : Int} {a3 : Int} {m0 : zM} {m : zM} (h : FX2_cut o1 a2 a3 m = some m0) : zCt l (zGC D ca ad) yX2_cut cX2_cut 5 none rmX2_cut [.ref (ad 25), .ref (ad o1), .int (zI a2), .int (zI a3)] m none m0 := by
  unfold FX2_cut at h
  refine z_of (plainFor_of_name (by decide +kernel)) hG (Nat.le_of_ble_eq_true rfl) (fun X hX => ?_)
  show zV X 5 m 0 [(0, .ref (ad 25)), (1, .ref (ad o1)), (2, .int (zI a2)), (3, .int (zI a3))] []
  refine z_aload_n (pc := 0) hX 0 dX2_cut_0 rfl rfl ?_
  refine z_get (pc := 1) (c := 25) (j := 0) (v := .ref (ad 26)) hX rfl zfl_RX2_9 (Nat.le_of_ble_eq_true rfl) (zCut_e (ca := ca) (f := m 25)) rfl dX2_cut_1 ?_
  refine z_sipush (pc := 4) hX dX2_cut_4 (by decide +kernel) ?_
  obtain ⟨m1, hr1, h⟩ := zcl_s h
  refine z_callSv (pc := 7) (v := .null) hX [.ref (ad 26), .int (zI 1000)] [] (wJ7_fill_53178 hG zCi26 hr1) zms_RX2_18 rfl rfl ⟨rfl, rfl⟩ ⟨by decide, by decide⟩ (Nat.le_of_ble_eq_true rfl) dX2_cut_7 ?_
  refine z_aload_n (pc := 10) hX 0 dX2_cut_10 rfl rfl ?_
  refine z_get (pc := 11) (c := 25) (j := 0) (v := .ref (ad 26)) hX rfl zfl_RX2_9 (Nat.le_of_ble_eq_true rfl) (zCut_e (ca := ca) (f := m1 25)) rfl dX2_cut_11 ?_
  refine z_iload_n (pc := 14) hX 2 dX2_cut_14 rfl rfl ?_
  refine z_iconst (pc := 15) hX dX2_cut_15 ?_
  obtain ⟨m2, hm2, hi2, h⟩ := zwr_s h
  refine z_iast (pc := 16) (c := 26) hX zCi26 hi2 hm2 dX2_cut_16 ?_
  refine z_iload_n (pc := 17) hX 2 dX2_cut_17 rfl rfl ?_
  refine z_istore (pc := 18) (lv' := [(4, .int (zI a2)), (0, .ref (ad 25)), (1, .ref (ad o1)), (2, .int (zI a2)), (3, .int (zI a3))]) hX dX2_cut_18 (by decide) rfl ?_
  refine z_sub [1, 2, 4, 0] rfl ?_
  refine wX2_cut_L20 hG h1 hX (fun y20_4 m20_ h => ?_) _ _ _ h
  exact z_vret (pc := 52) hX rfl rfl (Option.some.inj h) dX2_cut_52
def rmX2_pieceLength : Room := { frames := 0, cells := 0, slots := 0, locals := 0 }
set_option maxRecDepth 20000 in
set_option maxHeartbeats 4000000 in
theorem wX2_pieceLength_L4 {X : zXT} {l : Launch} {D : va_G} {ca : Nat → ClassId} {ad : Nat → Nat} (hG : zGok (zGC D ca ad)) {a1 : Int}  {r0 : Int} {m : zM}  (hX : zC X l rmX2_pieceLength (zGC D ca ad) (some (.int (zI r0))) m cX2_pieceLength 4 RX2 (some .int)) {k : Int → Int → Option (Int)} (hk : ∀ (v2 : Int) (v3 : Int), k v2 v3 = some r0 → zV X 4 m 24 [(0, .ref (ad 25)), (1, .int (zI a1)), (2, .int (zI v2)), (3, .int (zI v3))] []) : ∀ (n : Nat) (v2 : Int) (v3 : Int), FX2_pieceLength_L4 a1 m k n v2 v3 = some r0 → zV X 4 m 4 [(0, .ref (ad 25)), (1, .int (zI a1)), (2, .int (zI v2)), (3, .int (zI v3))] [] := by
  intro n
  induction n with
  | zero => intro v2 v3 h; cases h
  | succ n ih =>
    intro v2 v3 h
    replace h : FX2_pieceLength_L4_B a1 m k (FX2_pieceLength_L4 a1 m k n) v2 v3 = some r0 := h
    unfold FX2_pieceLength_L4_B at h
    refine z_iload_n (pc := 4) hX 3 dX2_pieceLength_4 rfl rfl ?_
    refine z_iload_n (pc := 5) hX 1 dX2_pieceLength_5 rfl rfl ?_
    refine z_icmp_ge (pc := 6) (tgt := 24) hX dX2_pieceLength_6 (by decide) (fun hc2 => ?_) (fun hc2 => ?_)
    · replace h := (if_neg hc2).symm.trans h
      exact hk _ _ h
    · replace h := (if_pos hc2).symm.trans h
      refine z_iload_n (pc := 9) hX 2 dX2_pieceLength_9 rfl rfl ?_
      refine z_aload_n (pc := 10) hX 0 dX2_pieceLength_10 rfl rfl ?_
      refine z_get (pc := 11) (c := 25) (j := 1) (v := .ref (ad 27)) hX rfl zfl_RX2_15 (Nat.le_of_ble_eq_true rfl) (zCut_e (ca := ca) (f := m 25)) rfl dX2_pieceLength_11 ?_
      refine z_iload_n (pc := 14) hX 2 dX2_pieceLength_14 rfl rfl ?_
      obtain ⟨x1, hx1, hi1, h⟩ := zrd_s h
      refine z_iald (pc := 15) (c := 27) hX zCi27 hi1 hx1 dX2_pieceLength_15 ?_
      refine z_iadd (pc := 16) hX dX2_pieceLength_16 ?_
      refine z_istore_n (pc := 17) (lv' := [(2, .int (zI (v2 + x1))), (0, .ref (ad 25)), (1, .int (zI a1)), (3, .int (zI v3))]) hX dX2_pieceLength_17 rfl (by decide) rfl ?_
      refine z_iinc (pc := 18) (lv' := [(3, .int (zI (v3 + 1))), (2, .int (zI (v2 + x1))), (0, .ref (ad 25)), (1, .int (zI a1))]) hX 3 dX2_pieceLength_18 rfl (by decide) rfl ?_
      refine z_goto (pc := 21) (tgt := 4) hX dX2_pieceLength_21 (by decide) ?_
      refine z_sub [2, 3, 1, 0] rfl ?_
      exact ih _ _ h
set_option maxRecDepth 20000 in
set_option maxHeartbeats 4000000 in
theorem wX2_pieceLength {l : Launch} {D : va_G} {ca : Nat → ClassId} {ad : Nat → Nat} (hG : zGok (zGC D ca ad)) {a1 : Int} {r0 : Int} {m : zM} (h : FX2_pieceLength a1 m = some r0) : zCt l (zGC D ca ad) yX2_pieceLength cX2_pieceLength 4 (some .int) rmX2_pieceLength [.ref (ad 25), .int (zI a1)] m (some (.int (zI r0))) m := by
  unfold FX2_pieceLength at h
  refine z_of (plainFor_of_name (by decide +kernel)) hG (Nat.le_of_ble_eq_true rfl) (fun X hX => ?_)
  show zV X 4 m 0 [(0, .ref (ad 25)), (1, .int (zI a1))] []
  refine z_iconst (pc := 0) hX dX2_pieceLength_0 ?_
  refine z_istore_n (pc := 1) (lv' := [(2, .int (zI 0)), (0, .ref (ad 25)), (1, .int (zI a1))]) hX dX2_pieceLength_1 rfl (by decide) rfl ?_
  refine z_iconst (pc := 2) hX dX2_pieceLength_2 ?_
  refine z_istore_n (pc := 3) (lv' := [(3, .int (zI 0)), (2, .int (zI 0)), (0, .ref (ad 25)), (1, .int (zI a1))]) hX dX2_pieceLength_3 rfl (by decide) rfl ?_
  refine z_sub [2, 3, 1, 0] rfl ?_
  refine wX2_pieceLength_L4 hG  hX (fun y4_2 y4_3 h => ?_) _ _ _ h
  refine z_aload_n (pc := 24) hX 0 dX2_pieceLength_24 rfl rfl ?_
  refine z_get (pc := 25) (c := 25) (j := 1) (v := .ref (ad 27)) hX rfl zfl_RX2_15 (Nat.le_of_ble_eq_true rfl) (zCut_e (ca := ca) (f := m 25)) rfl dX2_pieceLength_25 ?_
  refine z_iload_n (pc := 28) hX 2 dX2_pieceLength_28 rfl rfl ?_
  obtain ⟨x3, hx3, hi3, h⟩ := zrd_s h
  refine z_iald (pc := 29) (c := 27) hX zCi27 hi3 hx3 dX2_pieceLength_29 ?_
  exact z_iret (pc := 30) hX rfl rfl (Option.some.inj h) rfl dX2_pieceLength_30
def rmX2_pieces : Room := { frames := 0, cells := 0, slots := 0, locals := 0 }
set_option maxRecDepth 20000 in
set_option maxHeartbeats 4000000 in
theorem wX2_pieces {l : Launch} {D : va_G} {ca : Nat → ClassId} {ad : Nat → Nat} (hG : zGok (zGC D ca ad))  {r0 : Int} {m : zM} (h : FX2_pieces m = some r0) : zCt l (zGC D ca ad) yX2_pieces cX2_pieces 1 (some .int) rmX2_pieces [.ref (ad 25)] m (some (.int (zI r0))) m := by
  unfold FX2_pieces at h
  refine z_of (plainFor_of_name (by decide +kernel)) hG (Nat.le_of_ble_eq_true rfl) (fun X hX => ?_)
  show zV X 1 m 0 [(0, .ref (ad 25))] []
  refine z_aload_n (pc := 0) hX 0 dX2_pieces_0 rfl rfl ?_
  refine z_get (pc := 1) (c := 25) (j := 0) (v := .ref (ad 26)) hX rfl zfl_RX2_9 (Nat.le_of_ble_eq_true rfl) (zCut_e (ca := ca) (f := m 25)) rfl dX2_pieces_1 ?_
  refine z_iconst (pc := 4) hX dX2_pieces_4 ?_
  obtain ⟨x1, hx1, hi1, h⟩ := zrd_s h
  refine z_iald (pc := 5) (c := 26) hX zCi26 hi1 hx1 dX2_pieces_5 ?_
  exact z_iret (pc := 6) hX rfl rfl (Option.some.inj h) rfl dX2_pieces_6
def rmX3_append : Room := { frames := 0, cells := 0, slots := 0, locals := 0 }
set_option maxRecDepth 20000 in
set_option maxHeartbeats 4000000 in
theorem wX3_append {l : Launch} {D : va_G} {ca : Nat → ClassId} {ad : Nat → Nat} (hG : zGok (zGC D ca ad)) {o : Nat} (ho : zRow o) {a1 : Int} {m0 : zM} {m : zM} (h : FX3_append o a1 m = some m0) : zCt l (zGC D ca ad) yX3_append cX3_append 2 none rmX3_append [.ref (ad o), .int (zI a1)] m none m0 := by
  unfold FX3_append at h
  refine z_of (plainFor_of_name (by decide +kernel)) hG (Nat.le_of_ble_eq_true rfl) (fun X hX => ?_)
  show zV X 2 m 0 [(0, .ref (ad o)), (1, .int (zI a1))] []
  refine z_aload_n (pc := 0) hX 0 dX3_append_0 rfl rfl ?_
  refine z_get (pc := 1) (c := o) (j := 0) (v := .ref (ad (o + 1))) hX rfl zfl_RX3_9 (zRow_lt ho) (zRow_e (ca := ca) (f := m o) ho) rfl dX3_append_1 ?_
  refine z_aload_n (pc := 4) hX 0 dX3_append_4 rfl rfl ?_
  refine z_get (pc := 5) (c := o) (j := 1) (v := .int (zI (m o 1))) hX rfl zfl_RX3_15 (zRow_lt ho) (zRow_e (ca := ca) (f := m o) ho) rfl dX3_append_5 ?_
  refine z_iload_n (pc := 8) hX 1 dX3_append_8 rfl rfl ?_
  obtain ⟨m1, hm1, hi1, h⟩ := zwr_s h
  refine z_iast (pc := 9) (c := (o + 1)) hX (zRow_a1 ho) hi1 hm1 dX3_append_9 ?_
  refine z_aload_n (pc := 10) hX 0 dX3_append_10 rfl rfl ?_
  refine z_dup (pc := 11) hX dX3_append_11 rfl ?_
  refine z_get (pc := 12) (c := o) (j := 1) (v := .int (zI (m1 o 1))) hX rfl zfl_RX3_15 (zRow_lt ho) (zRow_e (ca := ca) (f := m1 o) ho) rfl dX3_append_12 ?_
  refine z_iconst (pc := 15) hX dX3_append_15 ?_
  refine z_iadd (pc := 16) hX dX3_append_16 ?_
  obtain ⟨m2, hm2, h⟩ := zpf_s h
  refine z_put (pc := 17) (c := o) (j := 1) hX rfl zfl_RX3_15 zfi_3_1 (zRow_lt ho) (zRow_e (ca := ca) (f := m1 o) ho) (Nat.le_of_ble_eq_true rfl) (zRow_p1 (ca := ca) ho) hm2 dX3_append_17 ?_
  exact z_vret (pc := 20) hX rfl rfl (Option.some.inj h) dX3_append_20
def rmX3_hold : Room := { frames := 1, cells := 0, slots := 0, locals := 26 }
set_option maxRecDepth 20000 in
set_option maxHeartbeats 4000000 in
theorem wX3_hold {l : Launch} {D : va_G} {ca : Nat → ClassId} {ad : Nat → Nat} (hG : zGok (zGC D ca ad)) {o : Nat} (ho : zRow o) {c1 n1 : Nat} (h1 : zInts (zGC D ca ad) c1 n1) {a2 : Int} {m0 : zM} {m : zM} (h : FX3_hold o c1 n1 a2 m = some m0) : zCt l (zGC D ca ad) yX3_hold cX3_hold 3 none rmX3_hold [.ref (ad o), .ref (ad c1), .int (zI a2)] m none m0 := by
  unfold FX3_hold at h
  refine z_of (plainFor_of_name (by decide +kernel)) hG (Nat.le_of_ble_eq_true rfl) (fun X hX => ?_)
  show zV X 3 m 0 [(0, .ref (ad o)), (1, .ref (ad c1)), (2, .int (zI a2))] []
  refine z_aload_n (pc := 0) hX 1 dX3_hold_0 rfl rfl ?_
  refine z_iconst (pc := 1) hX dX3_hold_1 ?_
  refine z_aload_n (pc := 2) hX 0 dX3_hold_2 rfl rfl ?_
  refine z_get (pc := 3) (c := o) (j := 0) (v := .ref (ad (o + 1))) hX rfl zfl_RX3_9 (zRow_lt ho) (zRow_e (ca := ca) (f := m o) ho) rfl dX3_hold_3 ?_
  refine z_iconst (pc := 6) hX dX3_hold_6 ?_
  refine z_iload_n (pc := 7) hX 2 dX3_hold_7 rfl rfl ?_
  obtain ⟨m1, hm1, g1, h⟩ := zcpy_s h
  refine z_copyi (pc := 8) (c0 := c1) (c1 := (o + 1)) hX h1 (zRow_a1 ho) zmc_RX3_19 g1 hm1 ⟨by decide, Nat.le_of_ble_eq_true rfl⟩ dX3_hold_8 ?_
  refine z_aload_n (pc := 11) hX 0 dX3_hold_11 rfl rfl ?_
  refine z_iload_n (pc := 12) hX 2 dX3_hold_12 rfl rfl ?_
  obtain ⟨m2, hm2, h⟩ := zpf_s h
  refine z_put (pc := 13) (c := o) (j := 1) hX rfl zfl_RX3_15 zfi_3_1 (zRow_lt ho) (zRow_e (ca := ca) (f := m1 o) ho) (Nat.le_of_ble_eq_true rfl) (zRow_p1 (ca := ca) ho) hm2 dX3_hold_13 ?_
  exact z_vret (pc := 16) hX rfl rfl (Option.some.inj h) dX3_hold_16
def rmX4_begin : Room := { frames := 1, cells := 0, slots := 0, locals := 24 }
set_option maxRecDepth 20000 in
set_option maxHeartbeats 4000000 in
theorem wX4_begin {l : Launch} {D : va_G} {ca : Nat → ClassId} {ad : Nat → Nat} (hG : zGok (zGC D ca ad)) {o : Nat} (ho : zSht o) {a1 : Int} {a2 : Int} {m0 : zM} {m : zM} (h : FX4_begin o a1 a2 m = some m0) : zCt l (zGC D ca ad) yX4_begin cX4_begin 3 none rmX4_begin [.ref (ad o), .int (zI a1), .int (zI a2)] m none m0 := by
  unfold FX4_begin at h
  refine z_of (plainFor_of_name (by decide +kernel)) hG (Nat.le_of_ble_eq_true rfl) (fun X hX => ?_)
  show zV X 3 m 0 [(0, .ref (ad o)), (1, .int (zI a1)), (2, .int (zI a2))] []
  refine z_aload_n (pc := 0) hX 0 dX4_begin_0 rfl rfl ?_
  refine z_get (pc := 1) (c := o) (j := 0) (v := .ref (ad (o + 1))) hX rfl zfl_RX4_9 (zSht_lt ho) (zSht_e (ca := ca) (f := m o) ho) rfl dX4_begin_1 ?_
  refine z_lconst (pc := 4) (a := 0) hX dX4_begin_4 (by decide +kernel) ?_
  obtain ⟨m1, hr1, h⟩ := zcl_s h
  refine z_callSv (pc := 5) (v := .null) hX [.ref (ad (o + 1)), .long (zJ 0)] [] (wJ7_fill_d0a16 hG (zSht_a1 ho) hr1) zms_RX4_19 rfl rfl ⟨rfl, rfl⟩ ⟨by decide, by decide⟩ (Nat.le_of_ble_eq_true rfl) dX4_begin_5 ?_
  refine z_aload_n (pc := 8) hX 0 dX4_begin_8 rfl rfl ?_
  refine z_iload_n (pc := 9) hX 1 dX4_begin_9 rfl rfl ?_
  obtain ⟨m2, hm2, h⟩ := zpf_s h
  refine z_put (pc := 10) (c := o) (j := 1) hX rfl zfl_RX4_25 zfi_4_1 (zSht_lt ho) (zSht_e (ca := ca) (f := m1 o) ho) (Nat.le_of_ble_eq_true rfl) (zSht_p1 (ca := ca) ho) hm2 dX4_begin_10 ?_
  refine z_aload_n (pc := 13) hX 0 dX4_begin_13 rfl rfl ?_
  refine z_iload_n (pc := 14) hX 2 dX4_begin_14 rfl rfl ?_
  obtain ⟨m3, hm3, h⟩ := zpf_s h
  refine z_put (pc := 15) (c := o) (j := 2) hX rfl zfl_RX4_15 zfi_4_2 (zSht_lt ho) (zSht_e (ca := ca) (f := m2 o) ho) (Nat.le_of_ble_eq_true rfl) (zSht_p2 (ca := ca) ho) hm3 dX4_begin_15 ?_
  exact z_vret (pc := 18) hX rfl rfl (Option.some.inj h) dX4_begin_18
def rmX5_isByte : Room := { frames := 0, cells := 0, slots := 0, locals := 0 }
set_option maxRecDepth 20000 in
set_option maxHeartbeats 4000000 in
theorem wX5_isByte {l : Launch} {D : va_G} {ca : Nat → ClassId} {ad : Nat → Nat} (hG : zGok (zGC D ca ad)) {a0 : Int} {r0 : Int} {m : zM} (h : FX5_isByte a0 = some r0) : zCt l (zGC D ca ad) yX5_isByte cX5_isByte 2 (some .boolean) rmX5_isByte [.long (zJ a0)] m (some (.int (zI r0))) m := by
  unfold FX5_isByte at h
  refine z_of (plainFor_of_name (by decide +kernel)) hG (Nat.le_of_ble_eq_true rfl) (fun X hX => ?_)
  show zV X 2 m 0 [(0, .long (zJ a0))] []
  refine z_lload_n (pc := 0) hX 0 dX5_isByte_0 rfl rfl ?_
  refine z_lconst (pc := 1) (a := 0) hX dX5_isByte_1 (by decide +kernel) ?_
  refine z_lcmp_lt (pc := 2) (tgt := 18) hX dX5_isByte_2 dX5_isByte_3 (by decide) (fun hc2 => ?_) (fun hc2 => ?_)
  · replace h := (if_pos hc2).symm.trans h
    refine z_iconst (pc := 18) hX dX5_isByte_18 ?_
    exact z_zret (pc := 19) hX rfl rfl (Or.inl rfl) (Option.some.inj h) rfl dX5_isByte_19
  · replace h := (if_neg hc2).symm.trans h
    refine z_lload_n (pc := 6) hX 0 dX5_isByte_6 rfl rfl ?_
    refine z_ldc2 (pc := 7) (n := 255) hX zk_RX5_261 (by decide +kernel) dX5_isByte_7 ?_
    refine z_lcmp_gt (pc := 10) (tgt := 18) hX dX5_isByte_10 dX5_isByte_11 (by decide) (fun hc1 => ?_) (fun hc1 => ?_)
    · replace h := (if_pos hc1).symm.trans h
      refine z_iconst (pc := 18) hX dX5_isByte_18 ?_
      exact z_zret (pc := 19) hX rfl rfl (Or.inl rfl) (Option.some.inj h) rfl dX5_isByte_19
    · replace h := (if_neg hc1).symm.trans h
      refine z_iconst (pc := 14) hX dX5_isByte_14 ?_
      refine z_goto (pc := 15) (tgt := 19) hX dX5_isByte_15 (by decide) ?_
      exact z_zret (pc := 19) hX rfl rfl (Or.inr rfl) (Option.some.inj h) rfl dX5_isByte_19
def rmX4_holdsBytes : Room := { frames := 1, cells := 0, slots := 0, locals := 21 }
set_option maxRecDepth 20000 in
set_option maxHeartbeats 4000000 in
theorem wX4_holdsBytes_L2 {X : zXT} {l : Launch} {D : va_G} {ca : Nat → ClassId} {ad : Nat → Nat} (hG : zGok (zGC D ca ad)) {o : Nat} (ho : zSht o) {a1 : Int} {a2 : Int}  {r0 : Int} {m : zM}  (hX : zC X l rmX4_holdsBytes (zGC D ca ad) (some (.int (zI r0))) m cX4_holdsBytes 4 RX4 (some .boolean)) {k : Int → Option (Int)} (hk : ∀ (v3 : Int), k v3 = some r0 → zV X 4 m 29 [(0, .ref (ad o)), (1, .int (zI a1)), (2, .int (zI a2)), (3, .int (zI v3))] []) : ∀ (n : Nat) (v3 : Int), FX4_holdsBytes_L2 o a1 a2 m k n v3 = some r0 → zV X 4 m 2 [(0, .ref (ad o)), (1, .int (zI a1)), (2, .int (zI a2)), (3, .int (zI v3))] [] := by
  intro n
  induction n with
  | zero => intro v3 h; cases h
  | succ n ih =>
    intro v3 h
    replace h : FX4_holdsBytes_L2_B o a1 a2 m k (FX4_holdsBytes_L2 o a1 a2 m k n) v3 = some r0 := h
    unfold FX4_holdsBytes_L2_B at h
    refine z_iload_n (pc := 2) hX 3 dX4_holdsBytes_2 rfl rfl ?_
    refine z_iload_n (pc := 3) hX 2 dX4_holdsBytes_3 rfl rfl ?_
    refine z_icmp_ge (pc := 4) (tgt := 29) hX dX4_holdsBytes_4 (by decide) (fun hc4 => ?_) (fun hc4 => ?_)
    · replace h := (if_neg hc4).symm.trans h
      exact hk _ h
    · replace h := (if_pos hc4).symm.trans h
      refine z_aload_n (pc := 7) hX 0 dX4_holdsBytes_7 rfl rfl ?_
      refine z_get (pc := 8) (c := o) (j := 0) (v := .ref (ad (o + 1))) hX rfl zfl_RX4_9 (zSht_lt ho) (zSht_e (ca := ca) (f := m o) ho) rfl dX4_holdsBytes_8 ?_
      refine z_iload_n (pc := 11) hX 1 dX4_holdsBytes_11 rfl rfl ?_
      refine z_iload_n (pc := 12) hX 3 dX4_holdsBytes_12 rfl rfl ?_
      refine z_iadd (pc := 13) hX dX4_holdsBytes_13 ?_
      obtain ⟨x1, hx1, hi1, h⟩ := zrd_s h
      refine z_lald (pc := 14) (c := (o + 1)) hX (zSht_a1 ho) hi1 hx1 dX4_holdsBytes_14 ?_
      obtain ⟨r2, hr2, h⟩ := zcl_s h
      refine z_callN (pc := 15) hX [.long (zJ x1)] [] rfl rfl rfl (wX5_isByte (ca := ca) hG  hr2) zmn_RX4_32 rfl rfl rfl ⟨rfl, rfl⟩ ⟨by decide, by decide⟩ (Nat.le_of_ble_eq_true rfl) dX4_holdsBytes_15 ?_
      refine z_if_ne (pc := 18) (tgt := 23) hX dX4_holdsBytes_18 (by decide) (fun hc3 => ?_) (fun hc3 => ?_)
      · replace h := (if_neg hc3).symm.trans h
        refine z_iinc (pc := 23) (lv' := [(3, .int (zI (v3 + 1))), (0, .ref (ad o)), (1, .int (zI a1)), (2, .int (zI a2))]) hX 3 dX4_holdsBytes_23 rfl (by decide) rfl ?_
        refine z_goto (pc := 26) (tgt := 2) hX dX4_holdsBytes_26 (by decide) ?_
        refine z_sub [1, 2, 3, 0] rfl ?_
        exact ih _ h
      · replace h := (if_pos hc3).symm.trans h
        refine z_iconst (pc := 21) hX dX4_holdsBytes_21 ?_
        exact z_zret (pc := 22) hX rfl rfl (Or.inl rfl) (Option.some.inj h) rfl dX4_holdsBytes_22
set_option maxRecDepth 20000 in
set_option maxHeartbeats 4000000 in
theorem wX4_holdsBytes {l : Launch} {D : va_G} {ca : Nat → ClassId} {ad : Nat → Nat} (hG : zGok (zGC D ca ad)) {o : Nat} (ho : zSht o) {a1 : Int} {a2 : Int} {r0 : Int} {m : zM} (h : FX4_holdsBytes o a1 a2 m = some r0) : zCt l (zGC D ca ad) yX4_holdsBytes cX4_holdsBytes 4 (some .boolean) rmX4_holdsBytes [.ref (ad o), .int (zI a1), .int (zI a2)] m (some (.int (zI r0))) m := by
  unfold FX4_holdsBytes at h
  refine z_of (plainFor_of_name (by decide +kernel)) hG (Nat.le_of_ble_eq_true rfl) (fun X hX => ?_)
  show zV X 4 m 0 [(0, .ref (ad o)), (1, .int (zI a1)), (2, .int (zI a2))] []
  refine z_iconst (pc := 0) hX dX4_holdsBytes_0 ?_
  refine z_istore_n (pc := 1) (lv' := [(3, .int (zI 0)), (0, .ref (ad o)), (1, .int (zI a1)), (2, .int (zI a2))]) hX dX4_holdsBytes_1 rfl (by decide) rfl ?_
  refine z_sub [1, 2, 3, 0] rfl ?_
  refine wX4_holdsBytes_L2 hG ho hX (fun y2_3 h => ?_) _ _ h
  refine z_iconst (pc := 29) hX dX4_holdsBytes_29 ?_
  exact z_zret (pc := 30) hX rfl rfl (Or.inr rfl) (Option.some.inj h) rfl dX4_holdsBytes_30
def rmX4_narrowed : Room := { frames := 0, cells := 0, slots := 0, locals := 0 }
set_option maxRecDepth 20000 in
set_option maxHeartbeats 4000000 in
theorem wX4_narrowed {l : Launch} {D : va_G} {ca : Nat → ClassId} {ad : Nat → Nat} (hG : zGok (zGC D ca ad)) {o : Nat} (ho : zSht o) {a1 : Int} {r0 : Int} {m : zM} (h : FX4_narrowed o a1 m = some r0) : zCt l (zGC D ca ad) yX4_narrowed cX4_narrowed 3 (some .long) rmX4_narrowed [.ref (ad o), .long (zJ a1)] m (some (.long (zJ r0))) m := by
  unfold FX4_narrowed at h
  refine z_of (plainFor_of_name (by decide +kernel)) hG (Nat.le_of_ble_eq_true rfl) (fun X hX => ?_)
  show zV X 3 m 0 [(0, .ref (ad o)), (1, .long (zJ a1))] []
  refine z_aload_n (pc := 0) hX 0 dX4_narrowed_0 rfl rfl ?_
  refine z_get (pc := 1) (c := o) (j := 1) (v := .int (zI (m o 1))) hX rfl zfl_RX4_25 (zSht_lt ho) (zSht_e (ca := ca) (f := m o) ho) rfl dX4_narrowed_1 ?_
  by_cases hc1_0 : zI (m o 1) = zI 0
  · replace h := (if_pos hc1_0).symm.trans h
    refine z_tswIn (pc := 4) (tgt := 32) (off := 28) hX 0 (by rw [hc1_0]; decide +kernel) dX4_narrowed_4 rfl (by decide) ?_
    refine z_lload_n (pc := 32) hX 1 dX4_narrowed_32 rfl rfl ?_
    refine z_l2i (pc := 33) hX dX4_narrowed_33 ?_
    refine z_i2c (pc := 34) hX dX4_narrowed_34 ?_
    obtain ⟨g2, h⟩ := zgd_s h
    refine z_i2l (pc := 35) hX g2 dX4_narrowed_35 ?_
    exact z_lret (pc := 36) hX rfl rfl (Option.some.inj h) rfl dX4_narrowed_36
  · replace h := (if_neg hc1_0).symm.trans h
    by_cases hc1_1 : zI (m o 1) = zI 1
    · replace h := (if_pos hc1_1).symm.trans h
      refine z_tswIn (pc := 4) (tgt := 37) (off := 33) hX 1 (by rw [hc1_1]; decide +kernel) dX4_narrowed_4 rfl (by decide) ?_
      refine z_lload_n (pc := 37) hX 1 dX4_narrowed_37 rfl rfl ?_
      refine z_l2i (pc := 38) hX dX4_narrowed_38 ?_
      refine z_i2s (pc := 39) hX dX4_narrowed_39 ?_
      obtain ⟨g3, h⟩ := zgd_s h
      refine z_i2l (pc := 40) hX g3 dX4_narrowed_40 ?_
      exact z_lret (pc := 41) hX rfl rfl (Option.some.inj h) rfl dX4_narrowed_41
    · replace h := (if_neg hc1_1).symm.trans h
      by_cases hc1_2 : zI (m o 1) = zI 2
      · replace h := (if_pos hc1_2).symm.trans h
        refine z_tswIn (pc := 4) (tgt := 42) (off := 38) hX 2 (by rw [hc1_2]; decide +kernel) dX4_narrowed_4 rfl (by decide) ?_
        refine z_lload_n (pc := 42) hX 1 dX4_narrowed_42 rfl rfl ?_
        refine z_l2i (pc := 43) hX dX4_narrowed_43 ?_
        obtain ⟨g4, h⟩ := zgd_s h
        refine z_i2l (pc := 44) hX g4 dX4_narrowed_44 ?_
        exact z_lret (pc := 45) hX rfl rfl (Option.some.inj h) rfl dX4_narrowed_45
      · replace h := (if_neg hc1_2).symm.trans h
        refine z_tswOut (pc := 4) (tgt := 46) hX (z_out3 hc1_0 hc1_1 hc1_2) dX4_narrowed_4 (by decide) ?_
        refine z_lload_n (pc := 46) hX 1 dX4_narrowed_46 rfl rfl ?_
        exact z_lret (pc := 47) hX rfl rfl (Option.some.inj h) rfl dX4_narrowed_47
def rmX4_refusal : Room := { frames := 0, cells := 0, slots := 0, locals := 0 }
set_option maxRecDepth 20000 in
set_option maxHeartbeats 4000000 in
theorem wX4_refusal {l : Launch} {D : va_G} {ca : Nat → ClassId} {ad : Nat → Nat} (hG : zGok (zGC D ca ad)) {o : Nat} (ho : zSht o) {a1 : Int} {a2 : Int} {a3 : Int} {r0 : Int} {m : zM} (h : FX4_refusal o a1 a2 a3 m = some r0) : zCt l (zGC D ca ad) yX4_refusal cX4_refusal 4 (some .int) rmX4_refusal [.ref (ad o), .int (zI a1), .int (zI a2), .int (zI a3)] m (some (.int (zI r0))) m := by
  unfold FX4_refusal at h
  refine z_of (plainFor_of_name (by decide +kernel)) hG (Nat.le_of_ble_eq_true rfl) (fun X hX => ?_)
  show zV X 4 m 0 [(0, .ref (ad o)), (1, .int (zI a1)), (2, .int (zI a2)), (3, .int (zI a3))] []
  refine z_aload_n (pc := 0) hX 0 dX4_refusal_0 rfl rfl ?_
  refine z_get (pc := 1) (c := o) (j := 2) (v := .int (zI (m o 2))) hX rfl zfl_RX4_15 (zSht_lt ho) (zSht_e (ca := ca) (f := m o) ho) rfl dX4_refusal_1 ?_
  refine z_iconst (pc := 4) hX dX4_refusal_4 ?_
  refine z_icmp_ne (pc := 5) (tgt := 11) hX dX4_refusal_5 (by decide) (fun hc5 => ?_) (fun hc5 => ?_)
  · replace h := (if_neg hc5).symm.trans h
    refine z_aload_n (pc := 11) hX 0 dX4_refusal_11 rfl rfl ?_
    refine z_get (pc := 12) (c := o) (j := 1) (v := .int (zI (m o 1))) hX rfl zfl_RX4_25 (zSht_lt ho) (zSht_e (ca := ca) (f := m o) ho) rfl dX4_refusal_12 ?_
    refine z_iload_n (pc := 15) hX 1 dX4_refusal_15 rfl rfl ?_
    refine z_icmp_eq (pc := 16) (tgt := 22) hX dX4_refusal_16 (by decide) (fun hc4 => ?_) (fun hc4 => ?_)
    · replace h := (if_pos hc4).symm.trans h
      refine z_iload_n (pc := 22) hX 2 dX4_refusal_22 rfl rfl ?_
      refine z_if_lt (pc := 23) (tgt := 40) hX dX4_refusal_23 (by decide) (fun hc3 => ?_) (fun hc3 => ?_)
      · replace h := (if_pos hc3).symm.trans h
        refine z_bipush (pc := 40) hX dX4_refusal_40 (by decide +kernel) ?_
        refine z_goto (pc := 42) (tgt := 46) hX dX4_refusal_42 (by decide) ?_
        exact z_iret (pc := 46) hX rfl rfl (Option.some.inj h) rfl dX4_refusal_46
      · replace h := (if_neg hc3).symm.trans h
        refine z_iload_n (pc := 26) hX 3 dX4_refusal_26 rfl rfl ?_
        refine z_if_lt (pc := 27) (tgt := 40) hX dX4_refusal_27 (by decide) (fun hc2 => ?_) (fun hc2 => ?_)
        · replace h := (if_pos hc2).symm.trans h
          refine z_bipush (pc := 40) hX dX4_refusal_40 (by decide +kernel) ?_
          refine z_goto (pc := 42) (tgt := 46) hX dX4_refusal_42 (by decide) ?_
          exact z_iret (pc := 46) hX rfl rfl (Option.some.inj h) rfl dX4_refusal_46
        · replace h := (if_neg hc2).symm.trans h
          refine z_iload_n (pc := 30) hX 2 dX4_refusal_30 rfl rfl ?_
          refine z_aload_n (pc := 31) hX 0 dX4_refusal_31 rfl rfl ?_
          refine z_get (pc := 32) (c := o) (j := 2) (v := .int (zI (m o 2))) hX rfl zfl_RX4_15 (zSht_lt ho) (zSht_e (ca := ca) (f := m o) ho) rfl dX4_refusal_32 ?_
          refine z_iload_n (pc := 35) hX 3 dX4_refusal_35 rfl rfl ?_
          refine z_isub (pc := 36) hX dX4_refusal_36 ?_
          refine z_icmp_le (pc := 37) (tgt := 45) hX dX4_refusal_37 (by decide) (fun hc1 => ?_) (fun hc1 => ?_)
          · replace h := (if_neg hc1).symm.trans h
            refine z_iconst (pc := 45) hX dX4_refusal_45 ?_
            exact z_iret (pc := 46) hX rfl rfl (Option.some.inj h) rfl dX4_refusal_46
          · replace h := (if_pos hc1).symm.trans h
            refine z_bipush (pc := 40) hX dX4_refusal_40 (by decide +kernel) ?_
            refine z_goto (pc := 42) (tgt := 46) hX dX4_refusal_42 (by decide) ?_
            exact z_iret (pc := 46) hX rfl rfl (Option.some.inj h) rfl dX4_refusal_46
    · replace h := (if_neg hc4).symm.trans h
      refine z_bipush (pc := 19) hX dX4_refusal_19 (by decide +kernel) ?_
      exact z_iret (pc := 21) hX rfl rfl (Option.some.inj h) rfl dX4_refusal_21
  · replace h := (if_pos hc5).symm.trans h
    refine z_bipush (pc := 8) hX dX4_refusal_8 (by decide +kernel) ?_
    exact z_iret (pc := 10) hX rfl rfl (Option.some.inj h) rfl dX4_refusal_10
def rmX4_store : Room := { frames := 1, cells := 0, slots := 0, locals := 22 }
set_option maxRecDepth 20000 in
set_option maxHeartbeats 4000000 in
theorem wX4_store {l : Launch} {D : va_G} {ca : Nat → ClassId} {ad : Nat → Nat} (hG : zGok (zGC D ca ad)) {o : Nat} (ho : zSht o) {a1 : Int} {a2 : Int} {r0 : Int} {m0 : zM} {m : zM} (h : FX4_store o a1 a2 m = some (r0, m0)) : zCt l (zGC D ca ad) yX4_store cX4_store 4 (some .long) rmX4_store [.ref (ad o), .int (zI a1), .long (zJ a2)] m (some (.long (zJ r0))) m0 := by
  unfold FX4_store at h
  refine z_of (plainFor_of_name (by decide +kernel)) hG (Nat.le_of_ble_eq_true rfl) (fun X hX => ?_)
  show zV X 4 m 0 [(0, .ref (ad o)), (1, .int (zI a1)), (2, .long (zJ a2))] []
  refine z_aload_n (pc := 0) hX 0 dX4_store_0 rfl rfl ?_
  refine z_get (pc := 1) (c := o) (j := 0) (v := .ref (ad (o + 1))) hX rfl zfl_RX4_9 (zSht_lt ho) (zSht_e (ca := ca) (f := m o) ho) rfl dX4_store_1 ?_
  refine z_iload_n (pc := 4) hX 1 dX4_store_4 rfl rfl ?_
  refine z_aload_n (pc := 5) hX 0 dX4_store_5 rfl rfl ?_
  refine z_lload_n (pc := 6) hX 2 dX4_store_6 rfl rfl ?_
  obtain ⟨r1, hr1, h⟩ := zcl_s h
  refine z_callVr (pc := 7) (c := o) hX [.long (zJ a2)] [.int (zI a1), .ref (ad (o + 1))] (wX4_narrowed (ca := ca) hG ho hr1) rfl zmv_RX4_28 (zSht_lt ho) (zSht_e (ca := ca) (f := m o) ho) rfl rfl ⟨rfl, rfl⟩ ⟨by decide, by decide⟩ (Nat.le_of_ble_eq_true rfl) dX4_store_7 ?_
  obtain ⟨m2, hm2, hi2, h⟩ := zwr_s h
  refine z_last (pc := 10) (c := (o + 1)) hX (zSht_a1 ho) hi2 hm2 dX4_store_10 ?_
  refine z_aload_n (pc := 11) hX 0 dX4_store_11 rfl rfl ?_
  refine z_get (pc := 12) (c := o) (j := 0) (v := .ref (ad (o + 1))) hX rfl zfl_RX4_9 (zSht_lt ho) (zSht_e (ca := ca) (f := m2 o) ho) rfl dX4_store_12 ?_
  refine z_iload_n (pc := 15) hX 1 dX4_store_15 rfl rfl ?_
  obtain ⟨x3, hx3, hi3, h⟩ := zrd_s h
  refine z_lald (pc := 16) (c := (o + 1)) hX (zSht_a1 ho) hi3 hx3 dX4_store_16 ?_
  exact z_lret (pc := 17) hX rfl rfl (Prod.mk.inj (Option.some.inj h)).1 (Prod.mk.inj (Option.some.inj h)).2 dX4_store_17
def rmX5_within : Room := { frames := 0, cells := 0, slots := 0, locals := 0 }
set_option maxRecDepth 20000 in
set_option maxHeartbeats 4000000 in
theorem wX5_within {l : Launch} {D : va_G} {ca : Nat → ClassId} {ad : Nat → Nat} (hG : zGok (zGC D ca ad)) {a0 : Int} {a1 : Int} {a2 : Int} {r0 : Int} {m : zM} (h : FX5_within a0 a1 a2 = some r0) : zCt l (zGC D ca ad) yX5_within cX5_within 3 (some .boolean) rmX5_within [.int (zI a0), .int (zI a1), .int (zI a2)] m (some (.int (zI r0))) m := by
  unfold FX5_within at h
  refine z_of (plainFor_of_name (by decide +kernel)) hG (Nat.le_of_ble_eq_true rfl) (fun X hX => ?_)
  show zV X 3 m 0 [(0, .int (zI a0)), (1, .int (zI a1)), (2, .int (zI a2))] []
  refine z_iload_n (pc := 0) hX 0 dX5_within_0 rfl rfl ?_
  refine z_iload_n (pc := 1) hX 1 dX5_within_1 rfl rfl ?_
  refine z_icmp_lt (pc := 2) (tgt := 14) hX dX5_within_2 (by decide) (fun hc2 => ?_) (fun hc2 => ?_)
  · replace h := (if_pos hc2).symm.trans h
    refine z_iconst (pc := 14) hX dX5_within_14 ?_
    exact z_zret (pc := 15) hX rfl rfl (Or.inl rfl) (Option.some.inj h) rfl dX5_within_15
  · replace h := (if_neg hc2).symm.trans h
    refine z_iload_n (pc := 5) hX 0 dX5_within_5 rfl rfl ?_
    refine z_iload_n (pc := 6) hX 2 dX5_within_6 rfl rfl ?_
    refine z_icmp_gt (pc := 7) (tgt := 14) hX dX5_within_7 (by decide) (fun hc1 => ?_) (fun hc1 => ?_)
    · replace h := (if_pos hc1).symm.trans h
      refine z_iconst (pc := 14) hX dX5_within_14 ?_
      exact z_zret (pc := 15) hX rfl rfl (Or.inl rfl) (Option.some.inj h) rfl dX5_within_15
    · replace h := (if_neg hc1).symm.trans h
      refine z_iconst (pc := 10) hX dX5_within_10 ?_
      refine z_goto (pc := 11) (tgt := 15) hX dX5_within_11 (by decide) ?_
      exact z_zret (pc := 15) hX rfl rfl (Or.inr rfl) (Option.some.inj h) rfl dX5_within_15
def rmX5_back : Room := { frames := 4, cells := 0, slots := 0, locals := 96 }
set_option maxRecDepth 20000 in
set_option maxHeartbeats 4000000 in
theorem wX5_back {l : Launch} {D : va_G} {ca : Nat → ClassId} {ad : Nat → Nat} (hG : zGok (zGC D ca ad)) {a1 : Int} {r0 : Int} {m0 : zM} {m : zM} (h : FX5_back a1 m = some (r0, m0)) : zCt l (zGC D ca ad) yX5_back cX5_back 3 (some .int) rmX5_back [.ref (ad 0), .int (zI a1)] m (some (.int (zI r0))) m0 := by
  unfold FX5_back at h
  refine z_of (plainFor_of_name (by decide +kernel)) hG (Nat.le_of_ble_eq_true rfl) (fun X hX => ?_)
  show zV X 3 m 0 [(0, .ref (ad 0)), (1, .int (zI a1))] []
  refine z_iload_n (pc := 0) hX 1 dX5_back_0 rfl rfl ?_
  refine z_iconst (pc := 1) hX dX5_back_1 ?_
  refine z_iconst (pc := 2) hX dX5_back_2 ?_
  obtain ⟨r1, hr1, h⟩ := zcl_s h
  refine z_callSr (pc := 3) hX [.int (zI a1), .int (zI 0), .int (zI 1)] [] (wX5_within (ca := ca) hG  hr1) zms_RX5_129 rfl rfl ⟨rfl, rfl⟩ ⟨by decide, by decide⟩ (Nat.le_of_ble_eq_true rfl) dX5_back_3 ?_
  refine z_if_ne (pc := 6) (tgt := 11) hX dX5_back_6 (by decide) (fun hc6 => ?_) (fun hc6 => ?_)
  · replace h := (if_neg hc6).symm.trans h
    refine z_aload_n (pc := 11) hX 0 dX5_back_11 rfl rfl ?_
    refine z_get (pc := 12) (c := 0) (j := 4) (v := .ref (ad 28)) hX rfl zfl_RX5_35 (Nat.le_of_ble_eq_true rfl) (zMain_e (ca := ca) (f := m 0)) rfl dX5_back_12 ?_
    refine z_iload_n (pc := 15) hX 1 dX5_back_15 rfl rfl ?_
    obtain ⟨hi2, h⟩ := zix_s h
    refine z_aald (pc := 16) (c := 28) hX zCr28 hi2 dX5_back_16 ?_
    refine z_astore_n (pc := 17) (lv' := [(2, .ref (ad (29 + 2 * (a1).toNat))), (0, .ref (ad 0)), (1, .int (zI a1))]) hX dX5_back_17 rfl (by decide) rfl ?_
    refine z_aload_n (pc := 18) hX 0 dX5_back_18 rfl rfl ?_
    refine z_get (pc := 19) (c := (29 + 2 * (a1).toNat)) (j := 1) (v := .int (zI (m (29 + 2 * (a1).toNat) 1))) hX rfl zfl_RX5_137 (zRow_lt (zRow_k hi2)) (zRow_e (ca := ca) (f := m (29 + 2 * (a1).toNat)) (zRow_k hi2)) rfl dX5_back_19 ?_
    refine z_iconst (pc := 22) hX dX5_back_22 ?_
    refine z_icmp_ne (pc := 23) (tgt := 29) hX dX5_back_23 (by decide) (fun hc5 => ?_) (fun hc5 => ?_)
    · replace h := (if_neg hc5).symm.trans h
      refine z_aload_n (pc := 29) hX 1 dX5_back_29 rfl rfl ?_
      refine z_get (pc := 30) (c := 0) (j := 0) (v := .ref (ad 1)) hX rfl zfl_RX5_12 (Nat.le_of_ble_eq_true rfl) (zMain_e (ca := ca) (f := m 0)) rfl dX5_back_30 ?_
      refine z_aload_n (pc := 33) hX 0 dX5_back_33 rfl rfl ?_
      refine z_get (pc := 34) (c := (29 + 2 * (a1).toNat)) (j := 0) (v := .ref (ad ((29 + 2 * (a1).toNat) + 1))) hX rfl zfl_RX5_138 (zRow_lt (zRow_k hi2)) (zRow_e (ca := ca) (f := m (29 + 2 * (a1).toNat)) (zRow_k hi2)) rfl dX5_back_34 ?_
      refine z_iconst (pc := 37) hX dX5_back_37 ?_
      refine z_aload_n (pc := 38) hX 0 dX5_back_38 rfl rfl ?_
      refine z_get (pc := 39) (c := (29 + 2 * (a1).toNat)) (j := 1) (v := .int (zI (m (29 + 2 * (a1).toNat) 1))) hX rfl zfl_RX5_137 (zRow_lt (zRow_k hi2)) (zRow_e (ca := ca) (f := m (29 + 2 * (a1).toNat)) (zRow_k hi2)) rfl dX5_back_39 ?_
      obtain ⟨m3, hr3, h⟩ := zcl_s h
      refine z_callVv (pc := 42) (v := .null) (c := 1) hX [.ref (ad ((29 + 2 * (a1).toNat) + 1)), .int (zI 0), .int (zI (m (29 + 2 * (a1).toNat) 1))] [] (wX1_load (ca := ca) hG (Or.inl rfl) (zRow_a1 (zRow_k hi2)) hr3) rfl zmv_RX5_141 (zCat_lt (Or.inl rfl)) (zCat_e (ca := ca) (f := m 1) (Or.inl rfl)) rfl rfl ⟨rfl, rfl⟩ ⟨by decide, by decide⟩ (Nat.le_of_ble_eq_true rfl) dX5_back_42 ?_
      refine z_aload_n (pc := 45) hX 1 dX5_back_45 rfl rfl ?_
      refine z_get (pc := 46) (c := 0) (j := 2) (v := .ref (ad 21)) hX rfl zfl_RX5_22 (Nat.le_of_ble_eq_true rfl) (zMain_e (ca := ca) (f := m3 0)) rfl dX5_back_46 ?_
      obtain ⟨m4, hr4, h⟩ := zcl_s h
      refine z_callVv (pc := 49) (v := .null) (c := 21) hX [] [] (wX0_forget (ca := ca) hG  hr4) rfl zmv_RX5_145 (Nat.le_of_ble_eq_true rfl) (zActs_e (ca := ca) (f := m3 21)) rfl rfl ⟨rfl, rfl⟩ ⟨by decide, by decide⟩ (Nat.le_of_ble_eq_true rfl) dX5_back_49 ?_
      refine z_aload_n (pc := 52) hX 1 dX5_back_52 rfl rfl ?_
      refine z_get (pc := 53) (c := 0) (j := 0) (v := .ref (ad 1)) hX rfl zfl_RX5_12 (Nat.le_of_ble_eq_true rfl) (zMain_e (ca := ca) (f := m4 0)) rfl dX5_back_53 ?_
      refine z_get (pc := 56) (c := 1) (j := 9) (v := .int (zI (m4 1 9))) hX rfl zfl_RX5_64 (zCat_lt (Or.inl rfl)) (zCat_e (ca := ca) (f := m4 1) (Or.inl rfl)) rfl dX5_back_56 ?_
      exact z_iret (pc := 59) hX rfl rfl (Prod.mk.inj (Option.some.inj h)).1 (Prod.mk.inj (Option.some.inj h)).2 dX5_back_59
    · replace h := (if_pos hc5).symm.trans h
      refine z_bipush (pc := 26) hX dX5_back_26 (by decide +kernel) ?_
      exact z_iret (pc := 28) hX rfl rfl (Prod.mk.inj (Option.some.inj h)).1 (Prod.mk.inj (Option.some.inj h)).2 dX5_back_28
  · replace h := (if_pos hc6).symm.trans h
    refine z_iconst (pc := 9) hX dX5_back_9 ?_
    exact z_iret (pc := 10) hX rfl rfl (Prod.mk.inj (Option.some.inj h)).1 (Prod.mk.inj (Option.some.inj h)).2 dX5_back_10
def rmX5_isPlace : Room := { frames := 1, cells := 0, slots := 0, locals := 22 }
set_option maxRecDepth 20000 in
set_option maxHeartbeats 4000000 in
theorem wX5_isPlace {l : Launch} {D : va_G} {ca : Nat → ClassId} {ad : Nat → Nat} (hG : zGok (zGC D ca ad)) {a1 : Int} {r0 : Int} {m : zM} (h : FX5_isPlace a1 m = some r0) : zCt l (zGC D ca ad) yX5_isPlace cX5_isPlace 2 (some .boolean) rmX5_isPlace [.ref (ad 0), .int (zI a1)] m (some (.int (zI r0))) m := by
  unfold FX5_isPlace at h
  refine z_of (plainFor_of_name (by decide +kernel)) hG (Nat.le_of_ble_eq_true rfl) (fun X hX => ?_)
  show zV X 2 m 0 [(0, .ref (ad 0)), (1, .int (zI a1))] []
  refine z_iload_n (pc := 0) hX 1 dX5_isPlace_0 rfl rfl ?_
  refine z_iconst (pc := 1) hX dX5_isPlace_1 ?_
  refine z_aload_n (pc := 2) hX 0 dX5_isPlace_2 rfl rfl ?_
  refine z_get (pc := 3) (c := 0) (j := 0) (v := .ref (ad 1)) hX rfl zfl_RX5_12 (Nat.le_of_ble_eq_true rfl) (zMain_e (ca := ca) (f := m 0)) rfl dX5_isPlace_3 ?_
  refine z_get (pc := 6) (c := 1) (j := 9) (v := .int (zI (m 1 9))) hX rfl zfl_RX5_64 (zCat_lt (Or.inl rfl)) (zCat_e (ca := ca) (f := m 1) (Or.inl rfl)) rfl dX5_isPlace_6 ?_
  refine z_iconst (pc := 9) hX dX5_isPlace_9 ?_
  refine z_isub (pc := 10) hX dX5_isPlace_10 ?_
  obtain ⟨r1, hr1, h⟩ := zcl_s h
  refine z_callSr (pc := 11) hX [.int (zI a1), .int (zI 0), .int (zI ((m 1 9) - 1))] [] (wX5_within (ca := ca) hG  hr1) zms_RX5_129 rfl rfl ⟨rfl, rfl⟩ ⟨by decide, by decide⟩ (Nat.le_of_ble_eq_true rfl) dX5_isPlace_11 ?_
  obtain ⟨g2, h⟩ := zgd_s h
  exact z_zret (pc := 14) hX rfl rfl g2 (Option.some.inj h) rfl dX5_isPlace_14
def rmX5_isLetter : Room := { frames := 1, cells := 0, slots := 0, locals := 22 }
set_option maxRecDepth 20000 in
set_option maxHeartbeats 4000000 in
theorem wX5_isLetter {l : Launch} {D : va_G} {ca : Nat → ClassId} {ad : Nat → Nat} (hG : zGok (zGC D ca ad)) {a0 : Int} {r0 : Int} {m : zM} (h : FX5_isLetter a0 = some r0) : zCt l (zGC D ca ad) yX5_isLetter cX5_isLetter 1 (some .boolean) rmX5_isLetter [.int (zI a0)] m (some (.int (zI r0))) m := by
  unfold FX5_isLetter at h
  refine z_of (plainFor_of_name (by decide +kernel)) hG (Nat.le_of_ble_eq_true rfl) (fun X hX => ?_)
  show zV X 1 m 0 [(0, .int (zI a0))] []
  refine z_iload_n (pc := 0) hX 0 dX5_isLetter_0 rfl rfl ?_
  refine z_bipush (pc := 1) hX dX5_isLetter_1 (by decide +kernel) ?_
  refine z_bipush (pc := 3) hX dX5_isLetter_3 (by decide +kernel) ?_
  obtain ⟨r1, hr1, h⟩ := zcl_s h
  refine z_callSr (pc := 5) hX [.int (zI a0), .int (zI 97), .int (zI 102)] [] (wX5_within (ca := ca) hG  hr1) zms_RX5_129 rfl rfl ⟨rfl, rfl⟩ ⟨by decide, by decide⟩ (Nat.le_of_ble_eq_true rfl) dX5_isLetter_5 ?_
  obtain ⟨g2, h⟩ := zgd_s h
  exact z_zret (pc := 8) hX rfl rfl g2 (Option.some.inj h) rfl dX5_isLetter_8
def rmX5_change : Room := { frames := 4, cells := 0, slots := 0, locals := 96 }
set_option maxRecDepth 20000 in
set_option maxHeartbeats 4000000 in
theorem wX5_change {l : Launch} {D : va_G} {ca : Nat → ClassId} {ad : Nat → Nat} (hG : zGok (zGC D ca ad)) {a1 : Int} {a2 : Int} {r0 : Int} {m0 : zM} {m : zM} (h : FX5_change a1 a2 m = some (r0, m0)) : zCt l (zGC D ca ad) yX5_change cX5_change 4 (some .int) rmX5_change [.ref (ad 0), .int (zI a1), .int (zI a2)] m (some (.int (zI r0))) m0 := by
  unfold FX5_change at h
  refine z_of (plainFor_of_name (by decide +kernel)) hG (Nat.le_of_ble_eq_true rfl) (fun X hX => ?_)
  show zV X 4 m 0 [(0, .ref (ad 0)), (1, .int (zI a1)), (2, .int (zI a2))] []
  refine z_aload_n (pc := 0) hX 0 dX5_change_0 rfl rfl ?_
  refine z_iload_n (pc := 1) hX 1 dX5_change_1 rfl rfl ?_
  obtain ⟨r1, hr1, h⟩ := zcl_s h
  refine z_callVr (pc := 2) (c := 0) hX [.int (zI a1)] [] (wX5_isPlace (ca := ca) hG  hr1) rfl zmv_RX5_83 (Nat.le_of_ble_eq_true rfl) (zMain_e (ca := ca) (f := m 0)) rfl rfl ⟨rfl, rfl⟩ ⟨by decide, by decide⟩ (Nat.le_of_ble_eq_true rfl) dX5_change_2 ?_
  refine z_if_eq (pc := 5) (tgt := 15) hX dX5_change_5 (by decide) (fun hc8 => ?_) (fun hc8 => ?_)
  · replace h := (if_pos hc8).symm.trans h
    refine z_iconst (pc := 15) hX dX5_change_15 ?_
    exact z_iret (pc := 16) hX rfl rfl (Prod.mk.inj (Option.some.inj h)).1 (Prod.mk.inj (Option.some.inj h)).2 dX5_change_16
  · replace h := (if_neg hc8).symm.trans h
    refine z_iload_n (pc := 8) hX 2 dX5_change_8 rfl rfl ?_
    obtain ⟨r2, hr2, h⟩ := zcl_s h
    refine z_callSr (pc := 9) hX [.int (zI a2)] [] (wX5_isLetter (ca := ca) hG  hr2) zms_RX5_60 rfl rfl ⟨rfl, rfl⟩ ⟨by decide, by decide⟩ (Nat.le_of_ble_eq_true rfl) dX5_change_9 ?_
    refine z_if_ne (pc := 12) (tgt := 17) hX dX5_change_12 (by decide) (fun hc7 => ?_) (fun hc7 => ?_)
    · replace h := (if_neg hc7).symm.trans h
      refine z_aload_n (pc := 17) hX 0 dX5_change_17 rfl rfl ?_
      refine z_get (pc := 18) (c := 0) (j := 0) (v := .ref (ad 1)) hX rfl zfl_RX5_12 (Nat.le_of_ble_eq_true rfl) (zMain_e (ca := ca) (f := m 0)) rfl dX5_change_18 ?_
      refine z_get (pc := 21) (c := 1) (j := 0) (v := .ref (ad 2)) hX rfl zfl_RX5_86 (zCat_lt (Or.inl rfl)) (zCat_e (ca := ca) (f := m 1) (Or.inl rfl)) rfl dX5_change_21 ?_
      refine z_iload_n (pc := 24) hX 1 dX5_change_24 rfl rfl ?_
      obtain ⟨x3, hx3, hi3, h⟩ := zrd_s h
      refine z_iald (pc := 25) (c := 2) hX (zCat_a1 (Or.inl rfl)) hi3 hx3 dX5_change_25 ?_
      refine z_istore_n (pc := 26) (lv' := [(3, .int (zI x3)), (0, .ref (ad 0)), (1, .int (zI a1)), (2, .int (zI a2))]) hX dX5_change_26 rfl (by decide) rfl ?_
      refine z_iload_n (pc := 27) hX 0 dX5_change_27 rfl rfl ?_
      refine z_iload_n (pc := 28) hX 3 dX5_change_28 rfl rfl ?_
      refine z_icmp_ne (pc := 29) (tgt := 35) hX dX5_change_29 (by decide) (fun hc6 => ?_) (fun hc6 => ?_)
      · replace h := (if_neg hc6).symm.trans h
        refine z_aload_n (pc := 35) hX 1 dX5_change_35 rfl rfl ?_
        refine z_get (pc := 36) (c := 0) (j := 0) (v := .ref (ad 1)) hX rfl zfl_RX5_12 (Nat.le_of_ble_eq_true rfl) (zMain_e (ca := ca) (f := m 0)) rfl dX5_change_36 ?_
        refine z_iload_n (pc := 39) hX 2 dX5_change_39 rfl rfl ?_
        refine z_iload_n (pc := 40) hX 3 dX5_change_40 rfl rfl ?_
        obtain ⟨m4, hr4, h⟩ := zcl_s h
        refine z_callVv (pc := 41) (v := .null) (c := 1) hX [.int (zI a1), .int (zI a2)] [] (wX1_replace (ca := ca) hG (Or.inl rfl) hr4) rfl zmv_RX5_89 (zCat_lt (Or.inl rfl)) (zCat_e (ca := ca) (f := m 1) (Or.inl rfl)) rfl rfl ⟨rfl, rfl⟩ ⟨by decide, by decide⟩ (Nat.le_of_ble_eq_true rfl) dX5_change_41 ?_
        refine z_aload_n (pc := 44) hX 1 dX5_change_44 rfl rfl ?_
        refine z_get (pc := 45) (c := 0) (j := 2) (v := .ref (ad 21)) hX rfl zfl_RX5_22 (Nat.le_of_ble_eq_true rfl) (zMain_e (ca := ca) (f := m4 0)) rfl dX5_change_45 ?_
        refine z_iconst (pc := 48) hX dX5_change_48 ?_
        refine z_iload_n (pc := 49) hX 2 dX5_change_49 rfl rfl ?_
        refine z_iload_n (pc := 50) hX 0 dX5_change_50 rfl rfl ?_
        obtain ⟨m5, hr5, h⟩ := zcl_s h
        refine z_callVv (pc := 51) (v := .null) (c := 21) hX [.int (zI 2), .int (zI a1), .int (zI x3)] [] (wX0_note (ca := ca) hG  hr5) rfl zmv_RX5_68 (Nat.le_of_ble_eq_true rfl) (zActs_e (ca := ca) (f := m4 21)) rfl rfl ⟨rfl, rfl⟩ ⟨by decide, by decide⟩ (Nat.le_of_ble_eq_true rfl) dX5_change_51 ?_
        refine z_iload_n (pc := 54) hX 0 dX5_change_54 rfl rfl ?_
        exact z_iret (pc := 55) hX rfl rfl (Prod.mk.inj (Option.some.inj h)).1 (Prod.mk.inj (Option.some.inj h)).2 dX5_change_55
      · replace h := (if_pos hc6).symm.trans h
        refine z_bipush (pc := 32) hX dX5_change_32 (by decide +kernel) ?_
        exact z_iret (pc := 34) hX rfl rfl (Prod.mk.inj (Option.some.inj h)).1 (Prod.mk.inj (Option.some.inj h)).2 dX5_change_34
    · replace h := (if_pos hc7).symm.trans h
      refine z_iconst (pc := 15) hX dX5_change_15 ?_
      exact z_iret (pc := 16) hX rfl rfl (Prod.mk.inj (Option.some.inj h)).1 (Prod.mk.inj (Option.some.inj h)).2 dX5_change_16
def rmX5_clear : Room := { frames := 0, cells := 0, slots := 0, locals := 0 }
set_option maxRecDepth 20000 in
set_option maxHeartbeats 4000000 in
theorem wX5_clear {l : Launch} {D : va_G} {ca : Nat → ClassId} {ad : Nat → Nat} (hG : zGok (zGC D ca ad))  {r0 : Int} {m0 : zM} {m : zM} (h : FX5_clear m = some (r0, m0)) : zCt l (zGC D ca ad) yX5_clear cX5_clear 2 (some .int) rmX5_clear [.ref (ad 0)] m (some (.int (zI r0))) m0 := by
  unfold FX5_clear at h
  refine z_of (plainFor_of_name (by decide +kernel)) hG (Nat.le_of_ble_eq_true rfl) (fun X hX => ?_)
  show zV X 2 m 0 [(0, .ref (ad 0))] []
  refine z_aload_n (pc := 0) hX 0 dX5_clear_0 rfl rfl ?_
  refine z_get (pc := 1) (c := 0) (j := 5) (v := .ref (ad 33)) hX rfl zfl_RX5_42 (Nat.le_of_ble_eq_true rfl) (zMain_e (ca := ca) (f := m 0)) rfl dX5_clear_1 ?_
  refine z_get (pc := 4) (c := 33) (j := 1) (v := .int (zI (m 33 1))) hX rfl zfl_RX5_137 (zRow_lt (Or.inr (Or.inr rfl))) (zRow_e (ca := ca) (f := m 33) (Or.inr (Or.inr rfl))) rfl dX5_clear_4 ?_
  refine z_istore_n (pc := 7) (lv' := [(1, .int (zI (m 33 1))), (0, .ref (ad 0))]) hX dX5_clear_7 rfl (by decide) rfl ?_
  refine z_aload_n (pc := 8) hX 1 dX5_clear_8 rfl rfl ?_
  refine z_get (pc := 9) (c := 0) (j := 5) (v := .ref (ad 33)) hX rfl zfl_RX5_42 (Nat.le_of_ble_eq_true rfl) (zMain_e (ca := ca) (f := m 0)) rfl dX5_clear_9 ?_
  refine z_iconst (pc := 12) hX dX5_clear_12 ?_
  obtain ⟨m1, hm1, h⟩ := zpf_s h
  refine z_put (pc := 13) (c := 33) (j := 1) hX rfl zfl_RX5_137 zfi_3_1 (zRow_lt (Or.inr (Or.inr rfl))) (zRow_e (ca := ca) (f := m 33) (Or.inr (Or.inr rfl))) (Nat.le_of_ble_eq_true rfl) (zRow_p1 (ca := ca) (Or.inr (Or.inr rfl))) hm1 dX5_clear_13 ?_
  refine z_iload_n (pc := 16) hX 0 dX5_clear_16 rfl rfl ?_
  exact z_iret (pc := 17) hX rfl rfl (Prod.mk.inj (Option.some.inj h)).1 (Prod.mk.inj (Option.some.inj h)).2 dX5_clear_17
def rmX5_common : Room := { frames := 4, cells := 0, slots := 0, locals := 96 }
set_option maxRecDepth 20000 in
set_option maxHeartbeats 4000000 in
theorem wX5_common_L63 {X : zXT} {l : Launch} {D : va_G} {ca : Nat → ClassId} {ad : Nat → Nat} (hG : zGok (zGC D ca ad)) {a1 : Int} {a2 : Int}  {r0 : Int} {m0 : zM} {mc : zM}  (hX : zC X l rmX5_common (zGC D ca ad) (some (.int (zI r0))) m0 cX5_common 8 RX5 (some .int)) {k : Int → Int → Int → Option (Int × zM)} (hk : ∀ (v4 : Int) (v5 : Int) (v6 : Int), k v4 v5 v6 = some (r0, m0) → zV X 8 mc 134 [(0, .ref (ad 0)), (2, .int (zI a2)), (4, .int (zI v4)), (5, .int (zI v5)), (6, .int (zI v6))] []) : ∀ (n : Nat) (v4 : Int) (v5 : Int) (v6 : Int), FX5_common_L63 a1 a2 mc k n v4 v5 v6 = some (r0, m0) → zV X 8 mc 63 [(0, .ref (ad 0)), (2, .int (zI a2)), (4, .int (zI v4)), (5, .int (zI v5)), (6, .int (zI v6))] [] := by
  intro n
  induction n with
  | zero => intro v4 v5 v6 h; cases h
  | succ n ih =>
    intro v4 v5 v6 h
    replace h : FX5_common_L63_B a1 a2 mc k (FX5_common_L63 a1 a2 mc k n) v4 v5 v6 = some (r0, m0) := h
    unfold FX5_common_L63_B at h
    refine z_iload (pc := 63) hX 4 dX5_common_63 rfl ?_
    refine z_aload_n (pc := 65) hX 0 dX5_common_65 rfl rfl ?_
    refine z_get (pc := 66) (c := 0) (j := 1) (v := .ref (ad 11)) hX rfl zfl_RX5_16 (Nat.le_of_ble_eq_true rfl) (zMain_e (ca := ca) (f := mc 0)) rfl dX5_common_66 ?_
    refine z_get (pc := 69) (c := 11) (j := 10) (v := .int (zI (mc 11 10))) hX rfl zfl_RX5_148 (zCat_lt (Or.inr rfl)) (zCat_e (ca := ca) (f := mc 11) (Or.inr rfl)) rfl dX5_common_69 ?_
    refine z_icmp_ge (pc := 72) (tgt := 134) hX dX5_common_72 (by decide) (fun hc10 => ?_) (fun hc10 => ?_)
    · replace h := (if_neg hc10).symm.trans h
      exact hk _ _ _ h
    · replace h := (if_pos hc10).symm.trans h
      refine z_aload_n (pc := 75) hX 0 dX5_common_75 rfl rfl ?_
      refine z_get (pc := 76) (c := 0) (j := 1) (v := .ref (ad 11)) hX rfl zfl_RX5_16 (Nat.le_of_ble_eq_true rfl) (zMain_e (ca := ca) (f := mc 0)) rfl dX5_common_76 ?_
      refine z_get (pc := 79) (c := 11) (j := 2) (v := .ref (ad 14)) hX rfl zfl_RX5_101 (zCat_lt (Or.inr rfl)) (zCat_e (ca := ca) (f := mc 11) (Or.inr rfl)) rfl dX5_common_79 ?_
      refine z_iload (pc := 82) hX 4 dX5_common_82 rfl ?_
      obtain ⟨x5, hx5, hi5, h⟩ := zrd_s h
      refine z_iald (pc := 84) (c := 14) hX (zCat_a3 (Or.inr rfl)) hi5 hx5 dX5_common_84 ?_
      refine z_istore (pc := 85) (lv' := [(7, .int (zI x5)), (0, .ref (ad 0)), (2, .int (zI a2)), (4, .int (zI v4)), (5, .int (zI v5)), (6, .int (zI v6))]) hX dX5_common_85 (by decide) rfl ?_
      refine z_aload_n (pc := 87) hX 1 dX5_common_87 rfl rfl ?_
      refine z_get (pc := 88) (c := 0) (j := 0) (v := .ref (ad 1)) hX rfl zfl_RX5_12 (Nat.le_of_ble_eq_true rfl) (zMain_e (ca := ca) (f := mc 0)) rfl dX5_common_88 ?_
      refine z_aload_n (pc := 91) hX 1 dX5_common_91 rfl rfl ?_
      refine z_get (pc := 92) (c := 0) (j := 1) (v := .ref (ad 11)) hX rfl zfl_RX5_16 (Nat.le_of_ble_eq_true rfl) (zMain_e (ca := ca) (f := mc 0)) rfl dX5_common_92 ?_
      refine z_get (pc := 95) (c := 11) (j := 0) (v := .ref (ad 12)) hX rfl zfl_RX5_86 (zCat_lt (Or.inr rfl)) (zCat_e (ca := ca) (f := mc 11) (Or.inr rfl)) rfl dX5_common_95 ?_
      refine z_aload_n (pc := 98) hX 1 dX5_common_98 rfl rfl ?_
      refine z_get (pc := 99) (c := 0) (j := 1) (v := .ref (ad 11)) hX rfl zfl_RX5_16 (Nat.le_of_ble_eq_true rfl) (zMain_e (ca := ca) (f := mc 0)) rfl dX5_common_99 ?_
      refine z_iload (pc := 102) hX 5 dX5_common_102 rfl ?_
      obtain ⟨r6, hr6, h⟩ := zcl_s h
      refine z_callVr (pc := 104) (c := 11) hX [.int (zI v6)] [.ref (ad 12), .ref (ad 1)] (wX1_firstPlace (ca := ca) hG (Or.inr rfl) hr6) rfl zmv_RX5_104 (zCat_lt (Or.inr rfl)) (zCat_e (ca := ca) (f := mc 11) (Or.inr rfl)) rfl rfl ⟨rfl, rfl⟩ ⟨by decide, by decide⟩ (Nat.le_of_ble_eq_true rfl) dX5_common_104 ?_
      refine z_iload (pc := 107) hX 0 dX5_common_107 rfl ?_
      obtain ⟨r7, hr7, h⟩ := zcl_s h
      refine z_callVr (pc := 109) (c := 1) hX [.ref (ad 12), .int (zI r6), .int (zI x5)] [] (wX1_nodeOf (ca := ca) hG (Or.inl rfl) (zCat_a1 (Or.inr rfl)) hr7) rfl zmv_RX5_151 (zCat_lt (Or.inl rfl)) (zCat_e (ca := ca) (f := mc 1) (Or.inl rfl)) rfl rfl ⟨rfl, rfl⟩ ⟨by decide, by decide⟩ (Nat.le_of_ble_eq_true rfl) dX5_common_109 ?_
      refine z_iconst (pc := 112) hX dX5_common_112 ?_
      refine z_icmp_eq (pc := 113) (tgt := 128) hX dX5_common_113 (by decide) (fun hc9 => ?_) (fun hc9 => ?_)
      · replace h := (if_pos hc9).symm.trans h
        refine z_iinc (pc := 128) (lv' := [(6, .int (zI (v6 + 1))), (7, .int (zI x5)), (0, .ref (ad 0)), (2, .int (zI a2)), (4, .int (zI v4)), (5, .int (zI v5))]) hX 5 dX5_common_128 rfl (by decide) rfl ?_
        refine z_goto (pc := 131) (tgt := 63) hX dX5_common_131 (by decide) ?_
        refine z_sub [2, 3, 4, 5, 0] rfl ?_
        exact ih _ _ _ h
      · replace h := (if_neg hc9).symm.trans h
        refine z_iinc (pc := 116) (lv' := [(4, .int (zI (v4 + 1))), (7, .int (zI x5)), (0, .ref (ad 0)), (2, .int (zI a2)), (5, .int (zI v5)), (6, .int (zI v6))]) hX 3 dX5_common_116 rfl (by decide) rfl ?_
        refine z_iload (pc := 119) hX 4 dX5_common_119 rfl ?_
        refine z_iload (pc := 121) hX 1 dX5_common_121 rfl ?_
        obtain ⟨r8, hr8, h⟩ := zcl_s h
        refine z_callSr (pc := 123) hX [.int (zI v5), .int (zI x5)] [] (wJ9_max_7cf53 (ca := ca) hG  hr8) zms_RX5_154 rfl rfl ⟨rfl, rfl⟩ ⟨by decide, by decide⟩ (Nat.le_of_ble_eq_true rfl) dX5_common_123 ?_
        refine z_istore (pc := 126) (lv' := [(5, .int (zI r8)), (4, .int (zI (v4 + 1))), (7, .int (zI x5)), (0, .ref (ad 0)), (2, .int (zI a2)), (6, .int (zI v6))]) hX dX5_common_126 (by decide) rfl ?_
        refine z_iinc (pc := 128) (lv' := [(6, .int (zI (v6 + 1))), (5, .int (zI r8)), (4, .int (zI (v4 + 1))), (7, .int (zI x5)), (0, .ref (ad 0)), (2, .int (zI a2))]) hX 5 dX5_common_128 rfl (by decide) rfl ?_
        refine z_goto (pc := 131) (tgt := 63) hX dX5_common_131 (by decide) ?_
        refine z_sub [4, 5, 2, 1, 0] rfl ?_
        exact ih _ _ _ h
set_option maxRecDepth 20000 in
set_option maxHeartbeats 4000000 in
theorem wX5_common {l : Launch} {D : va_G} {ca : Nat → ClassId} {ad : Nat → Nat} (hG : zGok (zGC D ca ad)) {a1 : Int} {a2 : Int} {r0 : Int} {m0 : zM} {m : zM} (h : FX5_common a1 a2 m = some (r0, m0)) : zCt l (zGC D ca ad) yX5_common cX5_common 8 (some .int) rmX5_common [.ref (ad 0), .int (zI a1), .int (zI a2)] m (some (.int (zI r0))) m0 := by
  unfold FX5_common at h
  refine z_of (plainFor_of_name (by decide +kernel)) hG (Nat.le_of_ble_eq_true rfl) (fun X hX => ?_)
  show zV X 8 m 0 [(0, .ref (ad 0)), (1, .int (zI a1)), (2, .int (zI a2))] []
  refine z_iload_n (pc := 0) hX 1 dX5_common_0 rfl rfl ?_
  refine z_iconst (pc := 1) hX dX5_common_1 ?_
  refine z_iconst (pc := 2) hX dX5_common_2 ?_
  obtain ⟨r1, hr1, h⟩ := zcl_s h
  refine z_callSr (pc := 3) hX [.int (zI a1), .int (zI 0), .int (zI 1)] [] (wX5_within (ca := ca) hG  hr1) zms_RX5_129 rfl rfl ⟨rfl, rfl⟩ ⟨by decide, by decide⟩ (Nat.le_of_ble_eq_true rfl) dX5_common_3 ?_
  refine z_if_eq (pc := 6) (tgt := 18) hX dX5_common_6 (by decide) (fun hc14 => ?_) (fun hc14 => ?_)
  · replace h := (if_pos hc14).symm.trans h
    refine z_iconst (pc := 18) hX dX5_common_18 ?_
    exact z_iret (pc := 19) hX rfl rfl (Prod.mk.inj (Option.some.inj h)).1 (Prod.mk.inj (Option.some.inj h)).2 dX5_common_19
  · replace h := (if_neg hc14).symm.trans h
    refine z_iload_n (pc := 9) hX 2 dX5_common_9 rfl rfl ?_
    refine z_iconst (pc := 10) hX dX5_common_10 ?_
    refine z_iconst (pc := 11) hX dX5_common_11 ?_
    obtain ⟨r2, hr2, h⟩ := zcl_s h
    refine z_callSr (pc := 12) hX [.int (zI a2), .int (zI 0), .int (zI 1)] [] (wX5_within (ca := ca) hG  hr2) zms_RX5_129 rfl rfl ⟨rfl, rfl⟩ ⟨by decide, by decide⟩ (Nat.le_of_ble_eq_true rfl) dX5_common_12 ?_
    refine z_if_ne (pc := 15) (tgt := 20) hX dX5_common_15 (by decide) (fun hc13 => ?_) (fun hc13 => ?_)
    · replace h := (if_neg hc13).symm.trans h
      refine z_aload_n (pc := 20) hX 0 dX5_common_20 rfl rfl ?_
      refine z_get (pc := 21) (c := 0) (j := 4) (v := .ref (ad 28)) hX rfl zfl_RX5_35 (Nat.le_of_ble_eq_true rfl) (zMain_e (ca := ca) (f := m 0)) rfl dX5_common_21 ?_
      refine z_iload_n (pc := 24) hX 1 dX5_common_24 rfl rfl ?_
      obtain ⟨hi3, h⟩ := zix_s h
      refine z_aald (pc := 25) (c := 28) hX zCr28 hi3 dX5_common_25 ?_
      refine z_astore_n (pc := 26) (lv' := [(3, .ref (ad (29 + 2 * (a1).toNat))), (0, .ref (ad 0)), (1, .int (zI a1)), (2, .int (zI a2))]) hX dX5_common_26 rfl (by decide) rfl ?_
      refine z_aload_n (pc := 27) hX 0 dX5_common_27 rfl rfl ?_
      refine z_get (pc := 28) (c := (29 + 2 * (a1).toNat)) (j := 1) (v := .int (zI (m (29 + 2 * (a1).toNat) 1))) hX rfl zfl_RX5_137 (zRow_lt (zRow_k hi3)) (zRow_e (ca := ca) (f := m (29 + 2 * (a1).toNat)) (zRow_k hi3)) rfl dX5_common_28 ?_
      refine z_iconst (pc := 31) hX dX5_common_31 ?_
      refine z_icmp_ne (pc := 32) (tgt := 38) hX dX5_common_32 (by decide) (fun hc12 => ?_) (fun hc12 => ?_)
      · replace h := (if_neg hc12).symm.trans h
        refine z_aload_n (pc := 38) hX 1 dX5_common_38 rfl rfl ?_
        refine z_get (pc := 39) (c := 0) (j := 1) (v := .ref (ad 11)) hX rfl zfl_RX5_16 (Nat.le_of_ble_eq_true rfl) (zMain_e (ca := ca) (f := m 0)) rfl dX5_common_39 ?_
        refine z_aload_n (pc := 42) hX 0 dX5_common_42 rfl rfl ?_
        refine z_get (pc := 43) (c := (29 + 2 * (a1).toNat)) (j := 0) (v := .ref (ad ((29 + 2 * (a1).toNat) + 1))) hX rfl zfl_RX5_138 (zRow_lt (zRow_k hi3)) (zRow_e (ca := ca) (f := m (29 + 2 * (a1).toNat)) (zRow_k hi3)) rfl dX5_common_43 ?_
        refine z_iconst (pc := 46) hX dX5_common_46 ?_
        refine z_aload_n (pc := 47) hX 0 dX5_common_47 rfl rfl ?_
        refine z_get (pc := 48) (c := (29 + 2 * (a1).toNat)) (j := 1) (v := .int (zI (m (29 + 2 * (a1).toNat) 1))) hX rfl zfl_RX5_137 (zRow_lt (zRow_k hi3)) (zRow_e (ca := ca) (f := m (29 + 2 * (a1).toNat)) (zRow_k hi3)) rfl dX5_common_48 ?_
        obtain ⟨m4, hr4, h⟩ := zcl_s h
        refine z_callVv (pc := 51) (v := .null) (c := 11) hX [.ref (ad ((29 + 2 * (a1).toNat) + 1)), .int (zI 0), .int (zI (m (29 + 2 * (a1).toNat) 1))] [] (wX1_load (ca := ca) hG (Or.inr rfl) (zRow_a1 (zRow_k hi3)) hr4) rfl zmv_RX5_141 (zCat_lt (Or.inr rfl)) (zCat_e (ca := ca) (f := m 11) (Or.inr rfl)) rfl rfl ⟨rfl, rfl⟩ ⟨by decide, by decide⟩ (Nat.le_of_ble_eq_true rfl) dX5_common_51 ?_
        refine z_iconst (pc := 54) hX dX5_common_54 ?_
        refine z_istore (pc := 55) (lv' := [(4, .int (zI 0)), (3, .ref (ad (29 + 2 * (a1).toNat))), (0, .ref (ad 0)), (1, .int (zI a1)), (2, .int (zI a2))]) hX dX5_common_55 (by decide) rfl ?_
        refine z_iconst (pc := 57) hX dX5_common_57 ?_
        refine z_istore (pc := 58) (lv' := [(5, .int (zI 0)), (4, .int (zI 0)), (3, .ref (ad (29 + 2 * (a1).toNat))), (0, .ref (ad 0)), (1, .int (zI a1)), (2, .int (zI a2))]) hX dX5_common_58 (by decide) rfl ?_
        refine z_iconst (pc := 60) hX dX5_common_60 ?_
        refine z_istore (pc := 61) (lv' := [(6, .int (zI 0)), (5, .int (zI 0)), (4, .int (zI 0)), (3, .ref (ad (29 + 2 * (a1).toNat))), (0, .ref (ad 0)), (1, .int (zI a1)), (2, .int (zI a2))]) hX dX5_common_61 (by decide) rfl ?_
        refine z_sub [4, 6, 2, 1, 0] rfl ?_
        refine wX5_common_L63 hG  hX (fun y63_4 y63_5 y63_6 h => ?_) _ _ _ _ h
        refine z_iload_n (pc := 134) hX 1 dX5_common_134 rfl rfl ?_
        refine z_if_ne (pc := 135) (tgt := 143) hX dX5_common_135 (by decide) (fun hc11 => ?_) (fun hc11 => ?_)
        · replace h := (if_neg hc11).symm.trans h
          refine z_iload (pc := 143) hX 3 dX5_common_143 rfl ?_
          exact z_iret (pc := 145) hX rfl rfl (Prod.mk.inj (Option.some.inj h)).1 (Prod.mk.inj (Option.some.inj h)).2 dX5_common_145
        · replace h := (if_pos hc11).symm.trans h
          refine z_iload (pc := 138) hX 2 dX5_common_138 rfl ?_
          refine z_goto (pc := 140) (tgt := 145) hX dX5_common_140 (by decide) ?_
          exact z_iret (pc := 145) hX rfl rfl (Prod.mk.inj (Option.some.inj h)).1 (Prod.mk.inj (Option.some.inj h)).2 dX5_common_145
      · replace h := (if_pos hc12).symm.trans h
        refine z_bipush (pc := 35) hX dX5_common_35 (by decide +kernel) ?_
        exact z_iret (pc := 37) hX rfl rfl (Prod.mk.inj (Option.some.inj h)).1 (Prod.mk.inj (Option.some.inj h)).2 dX5_common_37
    · replace h := (if_pos hc13).symm.trans h
      refine z_iconst (pc := 18) hX dX5_common_18 ?_
      exact z_iret (pc := 19) hX rfl rfl (Prod.mk.inj (Option.some.inj h)).1 (Prod.mk.inj (Option.some.inj h)).2 dX5_common_19
def rmX5_isSheet : Room := { frames := 1, cells := 0, slots := 0, locals := 22 }
set_option maxRecDepth 20000 in
set_option maxHeartbeats 4000000 in
theorem wX5_isSheet {l : Launch} {D : va_G} {ca : Nat → ClassId} {ad : Nat → Nat} (hG : zGok (zGC D ca ad)) {a0 : Int} {r0 : Int} {m : zM} (h : FX5_isSheet a0 = some r0) : zCt l (zGC D ca ad) yX5_isSheet cX5_isSheet 1 (some .boolean) rmX5_isSheet [.int (zI a0)] m (some (.int (zI r0))) m := by
  unfold FX5_isSheet at h
  refine z_of (plainFor_of_name (by decide +kernel)) hG (Nat.le_of_ble_eq_true rfl) (fun X hX => ?_)
  show zV X 1 m 0 [(0, .int (zI a0))] []
  refine z_iload_n (pc := 0) hX 0 dX5_isSheet_0 rfl rfl ?_
  refine z_iconst (pc := 1) hX dX5_isSheet_1 ?_
  refine z_iconst (pc := 2) hX dX5_isSheet_2 ?_
  obtain ⟨r1, hr1, h⟩ := zcl_s h
  refine z_callSr (pc := 3) hX [.int (zI a0), .int (zI 0), .int (zI 3)] [] (wX5_within (ca := ca) hG  hr1) zms_RX5_129 rfl rfl ⟨rfl, rfl⟩ ⟨by decide, by decide⟩ (Nat.le_of_ble_eq_true rfl) dX5_isSheet_3 ?_
  obtain ⟨g2, h⟩ := zgd_s h
  exact z_zret (pc := 6) hX rfl rfl g2 (Option.some.inj h) rfl dX5_isSheet_6
def rmX5_copy : Room := { frames := 2, cells := 0, slots := 0, locals := 42 }
set_option maxRecDepth 20000 in
set_option maxHeartbeats 4000000 in
theorem wX5_copy {l : Launch} {D : va_G} {ca : Nat → ClassId} {ad : Nat → Nat} (hG : zGok (zGC D ca ad)) {a1 : Int} {a2 : Int} {a3 : Int} {a4 : Int} {a5 : Int} {r0 : Int} {m0 : zM} {m : zM} (h : FX5_copy a1 a2 a3 a4 a5 m = some (r0, m0)) : zCt l (zGC D ca ad) yX5_copy cX5_copy 9 (some .int) rmX5_copy [.ref (ad 0), .int (zI a1), .int (zI a2), .int (zI a3), .int (zI a4), .int (zI a5)] m (some (.int (zI r0))) m0 := by
  unfold FX5_copy at h
  refine z_of (plainFor_of_name (by decide +kernel)) hG (Nat.le_of_ble_eq_true rfl) (fun X hX => ?_)
  show zV X 9 m 0 [(0, .ref (ad 0)), (1, .int (zI a1)), (2, .int (zI a2)), (3, .int (zI a3)), (4, .int (zI a4)), (5, .int (zI a5))] []
  refine z_iload_n (pc := 0) hX 1 dX5_copy_0 rfl rfl ?_
  obtain ⟨r1, hr1, h⟩ := zcl_s h
  refine z_callSr (pc := 1) hX [.int (zI a1)] [] (wX5_isSheet (ca := ca) hG  hr1) zms_RX5_218 rfl rfl ⟨rfl, rfl⟩ ⟨by decide, by decide⟩ (Nat.le_of_ble_eq_true rfl) dX5_copy_1 ?_
  refine z_if_eq (pc := 4) (tgt := 14) hX dX5_copy_4 (by decide) (fun hc13 => ?_) (fun hc13 => ?_)
  · replace h := (if_pos hc13).symm.trans h
    refine z_iconst (pc := 14) hX dX5_copy_14 ?_
    exact z_iret (pc := 15) hX rfl rfl (Prod.mk.inj (Option.some.inj h)).1 (Prod.mk.inj (Option.some.inj h)).2 dX5_copy_15
  · replace h := (if_neg hc13).symm.trans h
    refine z_iload_n (pc := 7) hX 3 dX5_copy_7 rfl rfl ?_
    obtain ⟨r2, hr2, h⟩ := zcl_s h
    refine z_callSr (pc := 8) hX [.int (zI a3)] [] (wX5_isSheet (ca := ca) hG  hr2) zms_RX5_218 rfl rfl ⟨rfl, rfl⟩ ⟨by decide, by decide⟩ (Nat.le_of_ble_eq_true rfl) dX5_copy_8 ?_
    refine z_if_ne (pc := 11) (tgt := 16) hX dX5_copy_11 (by decide) (fun hc12 => ?_) (fun hc12 => ?_)
    · replace h := (if_neg hc12).symm.trans h
      refine z_aload_n (pc := 16) hX 0 dX5_copy_16 rfl rfl ?_
      refine z_get (pc := 17) (c := 0) (j := 6) (v := .ref (ad 35)) hX rfl zfl_RX5_48 (Nat.le_of_ble_eq_true rfl) (zMain_e (ca := ca) (f := m 0)) rfl dX5_copy_17 ?_
      refine z_iload_n (pc := 20) hX 1 dX5_copy_20 rfl rfl ?_
      obtain ⟨hi3, h⟩ := zix_s h
      refine z_aald (pc := 21) (c := 35) hX zCr35 hi3 dX5_copy_21 ?_
      refine z_astore (pc := 22) (lv' := [(6, .ref (ad (36 + 2 * (a1).toNat))), (0, .ref (ad 0)), (1, .int (zI a1)), (2, .int (zI a2)), (3, .int (zI a3)), (4, .int (zI a4)), (5, .int (zI a5))]) hX dX5_copy_22 (by decide) rfl ?_
      refine z_aload_n (pc := 24) hX 1 dX5_copy_24 rfl rfl ?_
      refine z_get (pc := 25) (c := 0) (j := 6) (v := .ref (ad 35)) hX rfl zfl_RX5_48 (Nat.le_of_ble_eq_true rfl) (zMain_e (ca := ca) (f := m 0)) rfl dX5_copy_25 ?_
      refine z_iload_n (pc := 28) hX 4 dX5_copy_28 rfl rfl ?_
      obtain ⟨hi4, h⟩ := zix_s h
      refine z_aald (pc := 29) (c := 35) hX zCr35 hi4 dX5_copy_29 ?_
      refine z_astore (pc := 30) (lv' := [(7, .ref (ad (36 + 2 * (a3).toNat))), (6, .ref (ad (36 + 2 * (a1).toNat))), (0, .ref (ad 0)), (1, .int (zI a1)), (2, .int (zI a2)), (3, .int (zI a3)), (4, .int (zI a4)), (5, .int (zI a5))]) hX dX5_copy_30 (by decide) rfl ?_
      refine z_aload (pc := 32) hX 1 dX5_copy_32 rfl ?_
      refine z_get (pc := 34) (c := (36 + 2 * (a1).toNat)) (j := 2) (v := .int (zI (m (36 + 2 * (a1).toNat) 2))) hX rfl zfl_RX5_227 (zSht_lt (zSht_k hi3)) (zSht_e (ca := ca) (f := m (36 + 2 * (a1).toNat)) (zSht_k hi3)) rfl dX5_copy_34 ?_
      refine z_iconst (pc := 37) hX dX5_copy_37 ?_
      refine z_icmp_eq (pc := 38) (tgt := 50) hX dX5_copy_38 (by decide) (fun hc11 => ?_) (fun hc11 => ?_)
      · replace h := (if_pos hc11).symm.trans h
        refine z_bipush (pc := 50) hX dX5_copy_50 (by decide +kernel) ?_
        exact z_iret (pc := 52) hX rfl rfl (Prod.mk.inj (Option.some.inj h)).1 (Prod.mk.inj (Option.some.inj h)).2 dX5_copy_52
      · replace h := (if_neg hc11).symm.trans h
        refine z_aload (pc := 41) hX 0 dX5_copy_41 rfl ?_
        refine z_get (pc := 43) (c := (36 + 2 * (a3).toNat)) (j := 2) (v := .int (zI (m (36 + 2 * (a3).toNat) 2))) hX rfl zfl_RX5_227 (zSht_lt (zSht_k hi4)) (zSht_e (ca := ca) (f := m (36 + 2 * (a3).toNat)) (zSht_k hi4)) rfl dX5_copy_43 ?_
        refine z_iconst (pc := 46) hX dX5_copy_46 ?_
        refine z_icmp_ne (pc := 47) (tgt := 53) hX dX5_copy_47 (by decide) (fun hc10 => ?_) (fun hc10 => ?_)
        · replace h := (if_neg hc10).symm.trans h
          refine z_aload (pc := 53) hX 0 dX5_copy_53 rfl ?_
          refine z_aload (pc := 55) hX 1 dX5_copy_55 rfl ?_
          refine z_get (pc := 57) (c := (36 + 2 * (a1).toNat)) (j := 1) (v := .int (zI (m (36 + 2 * (a1).toNat) 1))) hX rfl zfl_RX5_238 (zSht_lt (zSht_k hi3)) (zSht_e (ca := ca) (f := m (36 + 2 * (a1).toNat)) (zSht_k hi3)) rfl dX5_copy_57 ?_
          refine z_iload (pc := 60) hX 6 dX5_copy_60 rfl ?_
          refine z_iload (pc := 62) hX 7 dX5_copy_62 rfl ?_
          obtain ⟨r5, hr5, h⟩ := zcl_s h
          refine z_callVr (pc := 64) (c := (36 + 2 * (a3).toNat)) hX [.int (zI (m (36 + 2 * (a1).toNat) 1)), .int (zI a4), .int (zI a5)] [] (wX4_refusal (ca := ca) hG (zSht_k hi4) hr5) rfl zmv_RX5_230 (zSht_lt (zSht_k hi4)) (zSht_e (ca := ca) (f := m (36 + 2 * (a3).toNat)) (zSht_k hi4)) rfl rfl ⟨rfl, rfl⟩ ⟨by decide, by decide⟩ (Nat.le_of_ble_eq_true rfl) dX5_copy_64 ?_
          refine z_istore (pc := 67) (lv' := [(8, .int (zI r5)), (7, .ref (ad (36 + 2 * (a3).toNat))), (6, .ref (ad (36 + 2 * (a1).toNat))), (0, .ref (ad 0)), (1, .int (zI a1)), (2, .int (zI a2)), (3, .int (zI a3)), (4, .int (zI a4)), (5, .int (zI a5))]) hX dX5_copy_67 (by decide) rfl ?_
          refine z_iload (pc := 69) hX 0 dX5_copy_69 rfl ?_
          obtain ⟨j89, hj89, h⟩ := zjn_s h (fun (j : Int → Option (Int × zM)) => ∀ (u89_8 : Int), j u89_8 = some (r0, m0) → zV X 9 m 89 [(2, .int (zI a2)), (4, .int (zI a4)), (5, .int (zI a5)), (6, .ref (ad (36 + 2 * (a1).toNat))), (7, .ref (ad (36 + 2 * (a3).toNat))), (8, .int (zI u89_8))] []) (fun u89_8 h => by
              refine z_iload (pc := 89) hX 5 dX5_copy_89 rfl ?_
              refine z_if_eq (pc := 91) (tgt := 97) hX dX5_copy_91 (by decide) (fun hc7 => ?_) (fun hc7 => ?_)
              · replace h := (if_pos hc7).symm.trans h
                refine z_aload (pc := 97) hX 3 dX5_copy_97 rfl ?_
                refine z_get (pc := 99) (c := (36 + 2 * (a1).toNat)) (j := 0) (v := .ref (ad ((36 + 2 * (a1).toNat) + 1))) hX rfl zfl_RX5_241 (zSht_lt (zSht_k hi3)) (zSht_e (ca := ca) (f := m (36 + 2 * (a1).toNat)) (zSht_k hi3)) rfl dX5_copy_99 ?_
                refine z_iload_n (pc := 102) hX 0 dX5_copy_102 rfl rfl ?_
                refine z_aload (pc := 103) hX 4 dX5_copy_103 rfl ?_
                refine z_get (pc := 105) (c := (36 + 2 * (a3).toNat)) (j := 0) (v := .ref (ad ((36 + 2 * (a3).toNat) + 1))) hX rfl zfl_RX5_241 (zSht_lt (zSht_k hi4)) (zSht_e (ca := ca) (f := m (36 + 2 * (a3).toNat)) (zSht_k hi4)) rfl dX5_copy_105 ?_
                refine z_iload (pc := 108) hX 1 dX5_copy_108 rfl ?_
                refine z_iload (pc := 110) hX 2 dX5_copy_110 rfl ?_
                obtain ⟨m6, hm6, g6, h⟩ := zcpy_s h
                refine z_copyl (pc := 112) (c0 := ((36 + 2 * (a1).toNat) + 1)) (c1 := ((36 + 2 * (a3).toNat) + 1)) hX (zSht_a1 (zSht_k hi3)) (zSht_a1 (zSht_k hi4)) zmc_RX5_245 g6 hm6 ⟨by decide, Nat.le_of_ble_eq_true rfl⟩ dX5_copy_112 ?_
                refine z_iload (pc := 115) hX 2 dX5_copy_115 rfl ?_
                exact z_iret (pc := 117) hX rfl rfl (Prod.mk.inj (Option.some.inj h)).1 (Prod.mk.inj (Option.some.inj h)).2 dX5_copy_117
              · replace h := (if_neg hc7).symm.trans h
                refine z_iload (pc := 94) hX 5 dX5_copy_94 rfl ?_
                exact z_iret (pc := 96) hX rfl rfl (Prod.mk.inj (Option.some.inj h)).1 (Prod.mk.inj (Option.some.inj h)).2 dX5_copy_96
              )
          refine z_if_ne (pc := 71) (tgt := 89) hX dX5_copy_71 (by decide) (fun hc9 => ?_) (fun hc9 => ?_)
          · replace h := (if_neg hc9).symm.trans h
            refine z_sub [5, 7, 8, 2, 1, 0] rfl ?_
            exact hj89 _ h
          · replace h := (if_pos hc9).symm.trans h
            refine z_aload (pc := 74) hX 2 dX5_copy_74 rfl ?_
            refine z_aload (pc := 76) hX 2 dX5_copy_76 rfl ?_
            refine z_get (pc := 78) (c := (36 + 2 * (a1).toNat)) (j := 1) (v := .int (zI (m (36 + 2 * (a1).toNat) 1))) hX rfl zfl_RX5_238 (zSht_lt (zSht_k hi3)) (zSht_e (ca := ca) (f := m (36 + 2 * (a1).toNat)) (zSht_k hi3)) rfl dX5_copy_78 ?_
            refine z_iload_n (pc := 81) hX 5 dX5_copy_81 rfl rfl ?_
            refine z_iload (pc := 82) hX 8 dX5_copy_82 rfl ?_
            obtain ⟨r8, hr8, h⟩ := zcl_s h
            refine z_callVr (pc := 84) (c := (36 + 2 * (a1).toNat)) hX [.int (zI (m (36 + 2 * (a1).toNat) 1)), .int (zI a2), .int (zI a5)] [] (wX4_refusal (ca := ca) hG (zSht_k hi3) hr8) rfl zmv_RX5_230 (zSht_lt (zSht_k hi3)) (zSht_e (ca := ca) (f := m (36 + 2 * (a1).toNat)) (zSht_k hi3)) rfl rfl ⟨rfl, rfl⟩ ⟨by decide, by decide⟩ (Nat.le_of_ble_eq_true rfl) dX5_copy_84 ?_
            refine z_istore (pc := 87) (lv' := [(8, .int (zI r8)), (7, .ref (ad (36 + 2 * (a3).toNat))), (6, .ref (ad (36 + 2 * (a1).toNat))), (0, .ref (ad 0)), (1, .int (zI a1)), (2, .int (zI a2)), (3, .int (zI a3)), (4, .int (zI a4)), (5, .int (zI a5))]) hX dX5_copy_87 (by decide) rfl ?_
            refine z_sub [5, 7, 8, 2, 1, 0] rfl ?_
            exact hj89 _ h
        · replace h := (if_pos hc10).symm.trans h
          refine z_bipush (pc := 50) hX dX5_copy_50 (by decide +kernel) ?_
          exact z_iret (pc := 52) hX rfl rfl (Prod.mk.inj (Option.some.inj h)).1 (Prod.mk.inj (Option.some.inj h)).2 dX5_copy_52
    · replace h := (if_pos hc12).symm.trans h
      refine z_iconst (pc := 14) hX dX5_copy_14 ?_
      exact z_iret (pc := 15) hX rfl rfl (Prod.mk.inj (Option.some.inj h)).1 (Prod.mk.inj (Option.some.inj h)).2 dX5_copy_15
def rmX5_count : Room := { frames := 1, cells := 0, slots := 0, locals := 22 }
set_option maxRecDepth 20000 in
set_option maxHeartbeats 4000000 in
theorem wX5_count {l : Launch} {D : va_G} {ca : Nat → ClassId} {ad : Nat → Nat} (hG : zGok (zGC D ca ad)) {a1 : Int} {r0 : Int} {m : zM} (h : FX5_count a1 m = some r0) : zCt l (zGC D ca ad) yX5_count cX5_count 3 (some .int) rmX5_count [.ref (ad 0), .int (zI a1)] m (some (.int (zI r0))) m := by
  unfold FX5_count at h
  refine z_of (plainFor_of_name (by decide +kernel)) hG (Nat.le_of_ble_eq_true rfl) (fun X hX => ?_)
  show zV X 3 m 0 [(0, .ref (ad 0)), (1, .int (zI a1))] []
  refine z_iload_n (pc := 0) hX 1 dX5_count_0 rfl rfl ?_
  by_cases hc1_0 : zI a1 = zI 0
  · replace h := (if_pos hc1_0).symm.trans h
    refine z_tswIn (pc := 1) (tgt := 48) (off := 47) hX 0 (by rw [hc1_0]; decide +kernel) dX5_count_1 rfl (by decide) ?_
    refine z_aload_n (pc := 48) hX 0 dX5_count_48 rfl rfl ?_
    refine z_get (pc := 49) (c := 0) (j := 0) (v := .ref (ad 1)) hX rfl zfl_RX5_12 (Nat.le_of_ble_eq_true rfl) (zMain_e (ca := ca) (f := m 0)) rfl dX5_count_49 ?_
    refine z_get (pc := 52) (c := 1) (j := 9) (v := .int (zI (m 1 9))) hX rfl zfl_RX5_64 (zCat_lt (Or.inl rfl)) (zCat_e (ca := ca) (f := m 1) (Or.inl rfl)) rfl dX5_count_52 ?_
    exact z_iret (pc := 55) hX rfl rfl (Option.some.inj h) rfl dX5_count_55
  · replace h := (if_neg hc1_0).symm.trans h
    by_cases hc1_1 : zI a1 = zI 1
    · replace h := (if_pos hc1_1).symm.trans h
      refine z_tswIn (pc := 1) (tgt := 56) (off := 55) hX 1 (by rw [hc1_1]; decide +kernel) dX5_count_1 rfl (by decide) ?_
      refine z_aload_n (pc := 56) hX 0 dX5_count_56 rfl rfl ?_
      refine z_get (pc := 57) (c := 0) (j := 0) (v := .ref (ad 1)) hX rfl zfl_RX5_12 (Nat.le_of_ble_eq_true rfl) (zMain_e (ca := ca) (f := m 0)) rfl dX5_count_57 ?_
      refine z_get (pc := 60) (c := 1) (j := 10) (v := .int (zI (m 1 10))) hX rfl zfl_RX5_148 (zCat_lt (Or.inl rfl)) (zCat_e (ca := ca) (f := m 1) (Or.inl rfl)) rfl dX5_count_60 ?_
      exact z_iret (pc := 63) hX rfl rfl (Option.some.inj h) rfl dX5_count_63
    · replace h := (if_neg hc1_1).symm.trans h
      by_cases hc1_2 : zI a1 = zI 2
      · replace h := (if_pos hc1_2).symm.trans h
        refine z_tswIn (pc := 1) (tgt := 64) (off := 63) hX 2 (by rw [hc1_2]; decide +kernel) dX5_count_1 rfl (by decide) ?_
        refine z_aload_n (pc := 64) hX 0 dX5_count_64 rfl rfl ?_
        refine z_get (pc := 65) (c := 0) (j := 0) (v := .ref (ad 1)) hX rfl zfl_RX5_12 (Nat.le_of_ble_eq_true rfl) (zMain_e (ca := ca) (f := m 0)) rfl dX5_count_65 ?_
        obtain ⟨r2, hr2, h⟩ := zcl_s h
        refine z_callVr (pc := 68) (c := 1) hX [] [] (wX1_allPlaces (ca := ca) hG (Or.inl rfl) hr2) rfl zmv_RX5_255 (zCat_lt (Or.inl rfl)) (zCat_e (ca := ca) (f := m 1) (Or.inl rfl)) rfl rfl ⟨rfl, rfl⟩ ⟨by decide, by decide⟩ (Nat.le_of_ble_eq_true rfl) dX5_count_68 ?_
        exact z_iret (pc := 71) hX rfl rfl (Option.some.inj h) rfl dX5_count_71
      · replace h := (if_neg hc1_2).symm.trans h
        by_cases hc1_3 : zI a1 = zI 3
        · replace h := (if_pos hc1_3).symm.trans h
          refine z_tswIn (pc := 1) (tgt := 72) (off := 71) hX 3 (by rw [hc1_3]; decide +kernel) dX5_count_1 rfl (by decide) ?_
          refine z_aload_n (pc := 72) hX 0 dX5_count_72 rfl rfl ?_
          refine z_get (pc := 73) (c := 0) (j := 0) (v := .ref (ad 1)) hX rfl zfl_RX5_12 (Nat.le_of_ble_eq_true rfl) (zMain_e (ca := ca) (f := m 0)) rfl dX5_count_73 ?_
          obtain ⟨r3, hr3, h⟩ := zcl_s h
          refine z_callVr (pc := 76) (c := 1) hX [] [] (wX1_evenNodes (ca := ca) hG (Or.inl rfl) hr3) rfl zmv_RX5_258 (zCat_lt (Or.inl rfl)) (zCat_e (ca := ca) (f := m 1) (Or.inl rfl)) rfl rfl ⟨rfl, rfl⟩ ⟨by decide, by decide⟩ (Nat.le_of_ble_eq_true rfl) dX5_count_76 ?_
          exact z_iret (pc := 79) hX rfl rfl (Option.some.inj h) rfl dX5_count_79
        · replace h := (if_neg hc1_3).symm.trans h
          by_cases hc1_4 : zI a1 = zI 4
          · replace h := (if_pos hc1_4).symm.trans h
            refine z_tswIn (pc := 1) (tgt := 80) (off := 79) hX 4 (by rw [hc1_4]; decide +kernel) dX5_count_1 rfl (by decide) ?_
            refine z_aload_n (pc := 80) hX 0 dX5_count_80 rfl rfl ?_
            refine z_get (pc := 81) (c := 0) (j := 0) (v := .ref (ad 1)) hX rfl zfl_RX5_12 (Nat.le_of_ble_eq_true rfl) (zMain_e (ca := ca) (f := m 0)) rfl dX5_count_81 ?_
            obtain ⟨r4, hr4, h⟩ := zcl_s h
            refine z_callVr (pc := 84) (c := 1) hX [] [] (wX1_longestNode (ca := ca) hG (Or.inl rfl) hr4) rfl zmv_RX5_176 (zCat_lt (Or.inl rfl)) (zCat_e (ca := ca) (f := m 1) (Or.inl rfl)) rfl rfl ⟨rfl, rfl⟩ ⟨by decide, by decide⟩ (Nat.le_of_ble_eq_true rfl) dX5_count_84 ?_
            refine z_istore_n (pc := 87) (lv' := [(2, .int (zI r4)), (0, .ref (ad 0)), (1, .int (zI a1))]) hX dX5_count_87 rfl (by decide) rfl ?_
            refine z_iload_n (pc := 88) hX 0 dX5_count_88 rfl rfl ?_
            refine z_iconst (pc := 89) hX dX5_count_89 ?_
            refine z_icmp_ne (pc := 90) (tgt := 97) hX dX5_count_90 (by decide) (fun hc6 => ?_) (fun hc6 => ?_)
            · replace h := (if_neg hc6).symm.trans h
              refine z_aload_n (pc := 97) hX 1 dX5_count_97 rfl rfl ?_
              refine z_get (pc := 98) (c := 0) (j := 0) (v := .ref (ad 1)) hX rfl zfl_RX5_12 (Nat.le_of_ble_eq_true rfl) (zMain_e (ca := ca) (f := m 0)) rfl dX5_count_98 ?_
              refine z_get (pc := 101) (c := 1) (j := 2) (v := .ref (ad 4)) hX rfl zfl_RX5_101 (zCat_lt (Or.inl rfl)) (zCat_e (ca := ca) (f := m 1) (Or.inl rfl)) rfl dX5_count_101 ?_
              refine z_iload_n (pc := 104) hX 0 dX5_count_104 rfl rfl ?_
              obtain ⟨x5, hx5, hi5, h⟩ := zrd_s h
              refine z_iald (pc := 105) (c := 4) hX (zCat_a3 (Or.inl rfl)) hi5 hx5 dX5_count_105 ?_
              exact z_iret (pc := 106) hX rfl rfl (Option.some.inj h) rfl dX5_count_106
            · replace h := (if_pos hc6).symm.trans h
              refine z_iconst (pc := 93) hX dX5_count_93 ?_
              refine z_goto (pc := 94) (tgt := 106) hX dX5_count_94 (by decide) ?_
              exact z_iret (pc := 106) hX rfl rfl (Option.some.inj h) rfl dX5_count_106
          · replace h := (if_neg hc1_4).symm.trans h
            by_cases hc1_5 : zI a1 = zI 5
            · replace h := (if_pos hc1_5).symm.trans h
              refine z_tswIn (pc := 1) (tgt := 107) (off := 106) hX 5 (by rw [hc1_5]; decide +kernel) dX5_count_1 rfl (by decide) ?_
              refine z_aload_n (pc := 107) hX 0 dX5_count_107 rfl rfl ?_
              refine z_get (pc := 108) (c := 0) (j := 0) (v := .ref (ad 1)) hX rfl zfl_RX5_12 (Nat.le_of_ble_eq_true rfl) (zMain_e (ca := ca) (f := m 0)) rfl dX5_count_108 ?_
              refine z_get (pc := 111) (c := 1) (j := 10) (v := .int (zI (m 1 10))) hX rfl zfl_RX5_148 (zCat_lt (Or.inl rfl)) (zCat_e (ca := ca) (f := m 1) (Or.inl rfl)) rfl dX5_count_111 ?_
              refine z_aload_n (pc := 114) hX 0 dX5_count_114 rfl rfl ?_
              refine z_get (pc := 115) (c := 0) (j := 0) (v := .ref (ad 1)) hX rfl zfl_RX5_12 (Nat.le_of_ble_eq_true rfl) (zMain_e (ca := ca) (f := m 0)) rfl dX5_count_115 ?_
              refine z_get (pc := 118) (c := 1) (j := 9) (v := .int (zI (m 1 9))) hX rfl zfl_RX5_64 (zCat_lt (Or.inl rfl)) (zCat_e (ca := ca) (f := m 1) (Or.inl rfl)) rfl dX5_count_118 ?_
              refine z_icmp_ne (pc := 121) (tgt := 128) hX dX5_count_121 (by decide) (fun hc7 => ?_) (fun hc7 => ?_)
              · replace h := (if_neg hc7).symm.trans h
                refine z_iconst (pc := 128) hX dX5_count_128 ?_
                exact z_iret (pc := 129) hX rfl rfl (Option.some.inj h) rfl dX5_count_129
              · replace h := (if_pos hc7).symm.trans h
                refine z_iconst (pc := 124) hX dX5_count_124 ?_
                refine z_goto (pc := 125) (tgt := 129) hX dX5_count_125 (by decide) ?_
                exact z_iret (pc := 129) hX rfl rfl (Option.some.inj h) rfl dX5_count_129
            · replace h := (if_neg hc1_5).symm.trans h
              by_cases hc1_6 : zI a1 = zI 6
              · replace h := (if_pos hc1_6).symm.trans h
                refine z_tswIn (pc := 1) (tgt := 130) (off := 129) hX 6 (by rw [hc1_6]; decide +kernel) dX5_count_1 rfl (by decide) ?_
                refine z_aload_n (pc := 130) hX 0 dX5_count_130 rfl rfl ?_
                refine z_get (pc := 131) (c := 0) (j := 2) (v := .ref (ad 21)) hX rfl zfl_RX5_22 (Nat.le_of_ble_eq_true rfl) (zMain_e (ca := ca) (f := m 0)) rfl dX5_count_131 ?_
                refine z_get (pc := 134) (c := 21) (j := 3) (v := .int (zI (m 21 3))) hX rfl zfl_RX5_93 (Nat.le_of_ble_eq_true rfl) (zActs_e (ca := ca) (f := m 21)) rfl dX5_count_134 ?_
                exact z_iret (pc := 137) hX rfl rfl (Option.some.inj h) rfl dX5_count_137
              · replace h := (if_neg hc1_6).symm.trans h
                by_cases hc1_7 : zI a1 = zI 7
                · replace h := (if_pos hc1_7).symm.trans h
                  refine z_tswIn (pc := 1) (tgt := 138) (off := 137) hX 7 (by rw [hc1_7]; decide +kernel) dX5_count_1 rfl (by decide) ?_
                  refine z_aload_n (pc := 138) hX 0 dX5_count_138 rfl rfl ?_
                  refine z_get (pc := 139) (c := 0) (j := 5) (v := .ref (ad 33)) hX rfl zfl_RX5_42 (Nat.le_of_ble_eq_true rfl) (zMain_e (ca := ca) (f := m 0)) rfl dX5_count_139 ?_
                  refine z_get (pc := 142) (c := 33) (j := 1) (v := .int (zI (m 33 1))) hX rfl zfl_RX5_137 (zRow_lt (Or.inr (Or.inr rfl))) (zRow_e (ca := ca) (f := m 33) (Or.inr (Or.inr rfl))) rfl dX5_count_142 ?_
                  exact z_iret (pc := 145) hX rfl rfl (Option.some.inj h) rfl dX5_count_145
                · replace h := (if_neg hc1_7).symm.trans h
                  refine z_tswOut (pc := 1) (tgt := 146) hX (z_out8 hc1_0 hc1_1 hc1_2 hc1_3 hc1_4 hc1_5 hc1_6 hc1_7) dX5_count_1 (by decide) ?_
                  refine z_iconst (pc := 146) hX dX5_count_146 ?_
                  exact z_iret (pc := 147) hX rfl rfl (Option.some.inj h) rfl dX5_count_147
def rmX5_cuts : Room := { frames := 2, cells := 0, slots := 0, locals := 53 }
set_option maxRecDepth 20000 in
set_option maxHeartbeats 4000000 in
theorem wX5_cuts {l : Launch} {D : va_G} {ca : Nat → ClassId} {ad : Nat → Nat} (hG : zGok (zGC D ca ad)) {a1 : Int} {a2 : Int} {r0 : Int} {m0 : zM} {m : zM} (h : FX5_cuts a1 a2 m = some (r0, m0)) : zCt l (zGC D ca ad) yX5_cuts cX5_cuts 4 (some .int) rmX5_cuts [.ref (ad 0), .int (zI a1), .int (zI a2)] m (some (.int (zI r0))) m0 := by
  unfold FX5_cuts at h
  refine z_of (plainFor_of_name (by decide +kernel)) hG (Nat.le_of_ble_eq_true rfl) (fun X hX => ?_)
  show zV X 4 m 0 [(0, .ref (ad 0)), (1, .int (zI a1)), (2, .int (zI a2))] []
  refine z_iload_n (pc := 0) hX 1 dX5_cuts_0 rfl rfl ?_
  refine z_iconst (pc := 1) hX dX5_cuts_1 ?_
  refine z_aload_n (pc := 2) hX 0 dX5_cuts_2 rfl rfl ?_
  refine z_get (pc := 3) (c := 0) (j := 0) (v := .ref (ad 1)) hX rfl zfl_RX5_12 (Nat.le_of_ble_eq_true rfl) (zMain_e (ca := ca) (f := m 0)) rfl dX5_cuts_3 ?_
  refine z_get (pc := 6) (c := 1) (j := 9) (v := .int (zI (m 1 9))) hX rfl zfl_RX5_64 (zCat_lt (Or.inl rfl)) (zCat_e (ca := ca) (f := m 1) (Or.inl rfl)) rfl dX5_cuts_6 ?_
  obtain ⟨r1, hr1, h⟩ := zcl_s h
  refine z_callSr (pc := 9) hX [.int (zI a1), .int (zI 0), .int (zI (m 1 9))] [] (wX5_within (ca := ca) hG  hr1) zms_RX5_129 rfl rfl ⟨rfl, rfl⟩ ⟨by decide, by decide⟩ (Nat.le_of_ble_eq_true rfl) dX5_cuts_9 ?_
  refine z_if_eq (pc := 12) (tgt := 20) hX dX5_cuts_12 (by decide) (fun hc8 => ?_) (fun hc8 => ?_)
  · replace h := (if_pos hc8).symm.trans h
    refine z_iconst (pc := 20) hX dX5_cuts_20 ?_
    exact z_iret (pc := 21) hX rfl rfl (Prod.mk.inj (Option.some.inj h)).1 (Prod.mk.inj (Option.some.inj h)).2 dX5_cuts_21
  · replace h := (if_neg hc8).symm.trans h
    refine z_iload_n (pc := 15) hX 2 dX5_cuts_15 rfl rfl ?_
    refine z_iconst (pc := 16) hX dX5_cuts_16 ?_
    refine z_icmp_ge (pc := 17) (tgt := 22) hX dX5_cuts_17 (by decide) (fun hc7 => ?_) (fun hc7 => ?_)
    · replace h := (if_neg hc7).symm.trans h
      refine z_aload_n (pc := 22) hX 0 dX5_cuts_22 rfl rfl ?_
      refine z_get (pc := 23) (c := 0) (j := 3) (v := .ref (ad 25)) hX rfl zfl_RX5_29 (Nat.le_of_ble_eq_true rfl) (zMain_e (ca := ca) (f := m 0)) rfl dX5_cuts_23 ?_
      refine z_aload_n (pc := 26) hX 0 dX5_cuts_26 rfl rfl ?_
      refine z_get (pc := 27) (c := 0) (j := 0) (v := .ref (ad 1)) hX rfl zfl_RX5_12 (Nat.le_of_ble_eq_true rfl) (zMain_e (ca := ca) (f := m 0)) rfl dX5_cuts_27 ?_
      refine z_iload_n (pc := 30) hX 1 dX5_cuts_30 rfl rfl ?_
      refine z_iconst (pc := 31) hX dX5_cuts_31 ?_
      obtain ⟨m2, hr2, h⟩ := zcl_s h
      refine z_callVv (pc := 32) (v := .null) (c := 25) hX [.ref (ad 1), .int (zI a1), .int (zI 0)] [] (wX2_cut (ca := ca) hG (Or.inl rfl) hr2) rfl zmv_RX5_166 (Nat.le_of_ble_eq_true rfl) (zCut_e (ca := ca) (f := m 25)) rfl rfl ⟨rfl, rfl⟩ ⟨by decide, by decide⟩ (Nat.le_of_ble_eq_true rfl) dX5_cuts_32 ?_
      refine z_aload_n (pc := 35) hX 0 dX5_cuts_35 rfl rfl ?_
      refine z_get (pc := 36) (c := 0) (j := 3) (v := .ref (ad 25)) hX rfl zfl_RX5_29 (Nat.le_of_ble_eq_true rfl) (zMain_e (ca := ca) (f := m2 0)) rfl dX5_cuts_36 ?_
      obtain ⟨r3, hr3, h⟩ := zcl_s h
      refine z_callVr (pc := 39) (c := 25) hX [] [] (wX2_pieces (ca := ca) hG  hr3) rfl zmv_RX5_170 (Nat.le_of_ble_eq_true rfl) (zCut_e (ca := ca) (f := m2 25)) rfl rfl ⟨rfl, rfl⟩ ⟨by decide, by decide⟩ (Nat.le_of_ble_eq_true rfl) dX5_cuts_39 ?_
      refine z_istore_n (pc := 42) (lv' := [(3, .int (zI r3)), (0, .ref (ad 0)), (1, .int (zI a1)), (2, .int (zI a2))]) hX dX5_cuts_42 rfl (by decide) rfl ?_
      refine z_iload_n (pc := 43) hX 3 dX5_cuts_43 rfl rfl ?_
      refine z_iconst (pc := 44) hX dX5_cuts_44 ?_
      refine z_icmp_ne (pc := 45) (tgt := 50) hX dX5_cuts_45 (by decide) (fun hc6 => ?_) (fun hc6 => ?_)
      · replace h := (if_neg hc6).symm.trans h
        refine z_iload_n (pc := 50) hX 3 dX5_cuts_50 rfl rfl ?_
        refine z_iload_n (pc := 51) hX 0 dX5_cuts_51 rfl rfl ?_
        refine z_icmp_ge (pc := 52) (tgt := 66) hX dX5_cuts_52 (by decide) (fun hc5 => ?_) (fun hc5 => ?_)
        · replace h := (if_neg hc5).symm.trans h
          refine z_bipush (pc := 66) hX dX5_cuts_66 (by decide +kernel) ?_
          exact z_iret (pc := 68) hX rfl rfl (Prod.mk.inj (Option.some.inj h)).1 (Prod.mk.inj (Option.some.inj h)).2 dX5_cuts_68
        · replace h := (if_pos hc5).symm.trans h
          refine z_aload_n (pc := 55) hX 1 dX5_cuts_55 rfl rfl ?_
          refine z_get (pc := 56) (c := 0) (j := 3) (v := .ref (ad 25)) hX rfl zfl_RX5_29 (Nat.le_of_ble_eq_true rfl) (zMain_e (ca := ca) (f := m2 0)) rfl dX5_cuts_56 ?_
          refine z_iload_n (pc := 59) hX 3 dX5_cuts_59 rfl rfl ?_
          obtain ⟨r4, hr4, h⟩ := zcl_s h
          refine z_callVr (pc := 60) (c := 25) hX [.int (zI a2)] [] (wX2_pieceLength (ca := ca) hG  hr4) rfl zmv_RX5_173 (Nat.le_of_ble_eq_true rfl) (zCut_e (ca := ca) (f := m2 25)) rfl rfl ⟨rfl, rfl⟩ ⟨by decide, by decide⟩ (Nat.le_of_ble_eq_true rfl) dX5_cuts_60 ?_
          refine z_goto (pc := 63) (tgt := 68) hX dX5_cuts_63 (by decide) ?_
          exact z_iret (pc := 68) hX rfl rfl (Prod.mk.inj (Option.some.inj h)).1 (Prod.mk.inj (Option.some.inj h)).2 dX5_cuts_68
      · replace h := (if_pos hc6).symm.trans h
        refine z_iload_n (pc := 48) hX 0 dX5_cuts_48 rfl rfl ?_
        exact z_iret (pc := 49) hX rfl rfl (Prod.mk.inj (Option.some.inj h)).1 (Prod.mk.inj (Option.some.inj h)).2 dX5_cuts_49
    · replace h := (if_pos hc7).symm.trans h
      refine z_iconst (pc := 20) hX dX5_cuts_20 ?_
      exact z_iret (pc := 21) hX rfl rfl (Prod.mk.inj (Option.some.inj h)).1 (Prod.mk.inj (Option.some.inj h)).2 dX5_cuts_21
def rmX5_drop : Room := { frames := 2, cells := 0, slots := 0, locals := 42 }
set_option maxRecDepth 20000 in
set_option maxHeartbeats 4000000 in
theorem wX5_drop {l : Launch} {D : va_G} {ca : Nat → ClassId} {ad : Nat → Nat} (hG : zGok (zGC D ca ad)) {a1 : Int} {r0 : Int} {m0 : zM} {m : zM} (h : FX5_drop a1 m = some (r0, m0)) : zCt l (zGC D ca ad) yX5_drop cX5_drop 3 (some .int) rmX5_drop [.ref (ad 0), .int (zI a1)] m (some (.int (zI r0))) m0 := by
  unfold FX5_drop at h
  refine z_of (plainFor_of_name (by decide +kernel)) hG (Nat.le_of_ble_eq_true rfl) (fun X hX => ?_)
  show zV X 3 m 0 [(0, .ref (ad 0)), (1, .int (zI a1))] []
  refine z_iload_n (pc := 0) hX 1 dX5_drop_0 rfl rfl ?_
  obtain ⟨r1, hr1, h⟩ := zcl_s h
  refine z_callSr (pc := 1) hX [.int (zI a1)] [] (wX5_isSheet (ca := ca) hG  hr1) zms_RX5_218 rfl rfl ⟨rfl, rfl⟩ ⟨by decide, by decide⟩ (Nat.le_of_ble_eq_true rfl) dX5_drop_1 ?_
  refine z_if_ne (pc := 4) (tgt := 9) hX dX5_drop_4 (by decide) (fun hc6 => ?_) (fun hc6 => ?_)
  · replace h := (if_neg hc6).symm.trans h
    refine z_aload_n (pc := 9) hX 0 dX5_drop_9 rfl rfl ?_
    refine z_get (pc := 10) (c := 0) (j := 6) (v := .ref (ad 35)) hX rfl zfl_RX5_48 (Nat.le_of_ble_eq_true rfl) (zMain_e (ca := ca) (f := m 0)) rfl dX5_drop_10 ?_
    refine z_iload_n (pc := 13) hX 1 dX5_drop_13 rfl rfl ?_
    obtain ⟨hi2, h⟩ := zix_s h
    refine z_aald (pc := 14) (c := 35) hX zCr35 hi2 dX5_drop_14 ?_
    refine z_get (pc := 15) (c := (36 + 2 * (a1).toNat)) (j := 2) (v := .int (zI (m (36 + 2 * (a1).toNat) 2))) hX rfl zfl_RX5_227 (zSht_lt (zSht_k hi2)) (zSht_e (ca := ca) (f := m (36 + 2 * (a1).toNat)) (zSht_k hi2)) rfl dX5_drop_15 ?_
    refine z_istore_n (pc := 18) (lv' := [(2, .int (zI (m (36 + 2 * (a1).toNat) 2))), (0, .ref (ad 0)), (1, .int (zI a1))]) hX dX5_drop_18 rfl (by decide) rfl ?_
    refine z_iload_n (pc := 19) hX 0 dX5_drop_19 rfl rfl ?_
    refine z_iconst (pc := 20) hX dX5_drop_20 ?_
    refine z_icmp_ne (pc := 21) (tgt := 27) hX dX5_drop_21 (by decide) (fun hc5 => ?_) (fun hc5 => ?_)
    · replace h := (if_neg hc5).symm.trans h
      refine z_aload_n (pc := 27) hX 1 dX5_drop_27 rfl rfl ?_
      refine z_get (pc := 28) (c := 0) (j := 6) (v := .ref (ad 35)) hX rfl zfl_RX5_48 (Nat.le_of_ble_eq_true rfl) (zMain_e (ca := ca) (f := m 0)) rfl dX5_drop_28 ?_
      refine z_iload_n (pc := 31) hX 2 dX5_drop_31 rfl rfl ?_
      obtain ⟨hi3, h⟩ := zix_s h
      refine z_aald (pc := 32) (c := 35) hX zCr35 hi3 dX5_drop_32 ?_
      refine z_iconst (pc := 33) hX dX5_drop_33 ?_
      obtain ⟨m4, hm4, h⟩ := zpf_s h
      refine z_put (pc := 34) (c := (36 + 2 * (a1).toNat)) (j := 2) hX rfl zfl_RX5_227 zfi_4_2 (zSht_lt (zSht_k hi3)) (zSht_e (ca := ca) (f := m (36 + 2 * (a1).toNat)) (zSht_k hi3)) (Nat.le_of_ble_eq_true rfl) (zSht_p2 (ca := ca) (zSht_k hi3)) hm4 dX5_drop_34 ?_
      refine z_iload_n (pc := 37) hX 0 dX5_drop_37 rfl rfl ?_
      exact z_iret (pc := 38) hX rfl rfl (Prod.mk.inj (Option.some.inj h)).1 (Prod.mk.inj (Option.some.inj h)).2 dX5_drop_38
    · replace h := (if_pos hc5).symm.trans h
      refine z_bipush (pc := 24) hX dX5_drop_24 (by decide +kernel) ?_
      exact z_iret (pc := 26) hX rfl rfl (Prod.mk.inj (Option.some.inj h)).1 (Prod.mk.inj (Option.some.inj h)).2 dX5_drop_26
  · replace h := (if_pos hc6).symm.trans h
    refine z_iconst (pc := 7) hX dX5_drop_7 ?_
    exact z_iret (pc := 8) hX rfl rfl (Prod.mk.inj (Option.some.inj h)).1 (Prod.mk.inj (Option.some.inj h)).2 dX5_drop_8
def rmX5_ends : Room := { frames := 2, cells := 0, slots := 0, locals := 43 }
set_option maxRecDepth 20000 in
set_option maxHeartbeats 4000000 in
theorem wX5_ends_L56 {X : zXT} {l : Launch} {D : va_G} {ca : Nat → ClassId} {ad : Nat → Nat} (hG : zGok (zGC D ca ad)) {a1 : Int} {a2 : Int}  {r0 : Int} {m : zM}  (hX : zC X l rmX5_ends (zGC D ca ad) (some (.int (zI r0))) m cX5_ends 6 RX5 (some .int)) {k : Int → Int → Option (Int)} (hk : ∀ (v3 : Int) (v5 : Int), k v3 v5 = some r0 → zV X 6 m 78 [(0, .ref (ad 0)), (2, .int (zI a2)), (3, .int (zI v3)), (5, .int (zI v5))] []) : ∀ (n : Nat) (v3 : Int) (v5 : Int), FX5_ends_L56 a1 a2 m k n v3 v5 = some r0 → zV X 6 m 56 [(0, .ref (ad 0)), (2, .int (zI a2)), (3, .int (zI v3)), (5, .int (zI v5))] [] := by
  intro n
  induction n with
  | zero => intro v3 v5 h; cases h
  | succ n ih =>
    intro v3 v5 h
    replace h : FX5_ends_L56_B a1 a2 m k (FX5_ends_L56 a1 a2 m k n) v3 v5 = some r0 := h
    unfold FX5_ends_L56_B at h
    refine z_iload (pc := 56) hX 3 dX5_ends_56 rfl ?_
    refine z_iload_n (pc := 58) hX 1 dX5_ends_58 rfl rfl ?_
    refine z_icmp_ge (pc := 59) (tgt := 78) hX dX5_ends_59 (by decide) (fun hc5 => ?_) (fun hc5 => ?_)
    · replace h := (if_neg hc5).symm.trans h
      exact hk _ _ h
    · replace h := (if_pos hc5).symm.trans h
      refine z_aload_n (pc := 62) hX 0 dX5_ends_62 rfl rfl ?_
      refine z_get (pc := 63) (c := 0) (j := 0) (v := .ref (ad 1)) hX rfl zfl_RX5_12 (Nat.le_of_ble_eq_true rfl) (zMain_e (ca := ca) (f := m 0)) rfl dX5_ends_63 ?_
      refine z_get (pc := 66) (c := 1) (j := 3) (v := .ref (ad 5)) hX rfl zfl_RX5_114 (zCat_lt (Or.inl rfl)) (zCat_e (ca := ca) (f := m 1) (Or.inl rfl)) rfl dX5_ends_66 ?_
      refine z_iload_n (pc := 69) hX 2 dX5_ends_69 rfl rfl ?_
      obtain ⟨x4, hx4, hi4, h⟩ := zrd_s h
      refine z_iald (pc := 70) (c := 5) hX (zCat_a4 (Or.inl rfl)) hi4 hx4 dX5_ends_70 ?_
      refine z_istore_n (pc := 71) (lv' := [(3, .int (zI x4)), (0, .ref (ad 0)), (2, .int (zI a2)), (5, .int (zI v5))]) hX dX5_ends_71 rfl (by decide) rfl ?_
      refine z_iinc (pc := 72) (lv' := [(5, .int (zI (v5 + 1))), (3, .int (zI x4)), (0, .ref (ad 0)), (2, .int (zI a2))]) hX 3 dX5_ends_72 rfl (by decide) rfl ?_
      refine z_goto (pc := 75) (tgt := 56) hX dX5_ends_75 (by decide) ?_
      refine z_sub [2, 3, 1, 0] rfl ?_
      exact ih _ _ h
set_option maxRecDepth 20000 in
set_option maxHeartbeats 4000000 in
theorem wX5_ends {l : Launch} {D : va_G} {ca : Nat → ClassId} {ad : Nat → Nat} (hG : zGok (zGC D ca ad)) {a1 : Int} {a2 : Int} {r0 : Int} {m : zM} (h : FX5_ends a1 a2 m = some r0) : zCt l (zGC D ca ad) yX5_ends cX5_ends 6 (some .int) rmX5_ends [.ref (ad 0), .int (zI a1), .int (zI a2)] m (some (.int (zI r0))) m := by
  unfold FX5_ends at h
  refine z_of (plainFor_of_name (by decide +kernel)) hG (Nat.le_of_ble_eq_true rfl) (fun X hX => ?_)
  show zV X 6 m 0 [(0, .ref (ad 0)), (1, .int (zI a1)), (2, .int (zI a2))] []
  refine z_aload_n (pc := 0) hX 0 dX5_ends_0 rfl rfl ?_
  refine z_iload_n (pc := 1) hX 1 dX5_ends_1 rfl rfl ?_
  obtain ⟨r1, hr1, h⟩ := zcl_s h
  refine z_callVr (pc := 2) (c := 0) hX [.int (zI a1)] [] (wX5_isPlace (ca := ca) hG  hr1) rfl zmv_RX5_83 (Nat.le_of_ble_eq_true rfl) (zMain_e (ca := ca) (f := m 0)) rfl rfl ⟨rfl, rfl⟩ ⟨by decide, by decide⟩ (Nat.le_of_ble_eq_true rfl) dX5_ends_2 ?_
  refine z_if_eq (pc := 5) (tgt := 13) hX dX5_ends_5 (by decide) (fun hc10 => ?_) (fun hc10 => ?_)
  · replace h := (if_pos hc10).symm.trans h
    refine z_iconst (pc := 13) hX dX5_ends_13 ?_
    exact z_iret (pc := 14) hX rfl rfl (Option.some.inj h) rfl dX5_ends_14
  · replace h := (if_neg hc10).symm.trans h
    refine z_iload_n (pc := 8) hX 2 dX5_ends_8 rfl rfl ?_
    refine z_iconst (pc := 9) hX dX5_ends_9 ?_
    refine z_icmp_ge (pc := 10) (tgt := 15) hX dX5_ends_10 (by decide) (fun hc9 => ?_) (fun hc9 => ?_)
    · replace h := (if_neg hc9).symm.trans h
      refine z_aload_n (pc := 15) hX 0 dX5_ends_15 rfl rfl ?_
      refine z_get (pc := 16) (c := 0) (j := 0) (v := .ref (ad 1)) hX rfl zfl_RX5_12 (Nat.le_of_ble_eq_true rfl) (zMain_e (ca := ca) (f := m 0)) rfl dX5_ends_16 ?_
      refine z_get (pc := 19) (c := 1) (j := 1) (v := .ref (ad 3)) hX rfl zfl_RX5_160 (zCat_lt (Or.inl rfl)) (zCat_e (ca := ca) (f := m 1) (Or.inl rfl)) rfl dX5_ends_19 ?_
      refine z_iload_n (pc := 22) hX 1 dX5_ends_22 rfl rfl ?_
      obtain ⟨x2, hx2, hi2, h⟩ := zrd_s h
      refine z_iald (pc := 23) (c := 3) hX (zCat_a2 (Or.inl rfl)) hi2 hx2 dX5_ends_23 ?_
      refine z_istore_n (pc := 24) (lv' := [(3, .int (zI x2)), (0, .ref (ad 0)), (1, .int (zI a1)), (2, .int (zI a2))]) hX dX5_ends_24 rfl (by decide) rfl ?_
      refine z_aload_n (pc := 25) hX 1 dX5_ends_25 rfl rfl ?_
      refine z_get (pc := 26) (c := 0) (j := 0) (v := .ref (ad 1)) hX rfl zfl_RX5_12 (Nat.le_of_ble_eq_true rfl) (zMain_e (ca := ca) (f := m 0)) rfl dX5_ends_26 ?_
      refine z_get (pc := 29) (c := 1) (j := 7) (v := .ref (ad 9)) hX rfl zfl_RX5_163 (zCat_lt (Or.inl rfl)) (zCat_e (ca := ca) (f := m 1) (Or.inl rfl)) rfl dX5_ends_29 ?_
      refine z_iload_n (pc := 32) hX 0 dX5_ends_32 rfl rfl ?_
      obtain ⟨x3, hx3, hi3, h⟩ := zrd_s h
      refine z_iald (pc := 33) (c := 9) hX (zCat_a8 (Or.inl rfl)) hi3 hx3 dX5_ends_33 ?_
      refine z_istore (pc := 34) (lv' := [(4, .int (zI x3)), (3, .int (zI x2)), (0, .ref (ad 0)), (1, .int (zI a1)), (2, .int (zI a2))]) hX dX5_ends_34 (by decide) rfl ?_
      refine z_iload_n (pc := 36) hX 4 dX5_ends_36 rfl rfl ?_
      refine z_iconst (pc := 37) hX dX5_ends_37 ?_
      refine z_icmp_ne (pc := 38) (tgt := 44) hX dX5_ends_38 (by decide) (fun hc8 => ?_) (fun hc8 => ?_)
      · replace h := (if_neg hc8).symm.trans h
        refine z_iload_n (pc := 44) hX 4 dX5_ends_44 rfl rfl ?_
        refine z_iload (pc := 45) hX 0 dX5_ends_45 rfl ?_
        refine z_icmp_lt (pc := 47) (tgt := 53) hX dX5_ends_47 (by decide) (fun hc7 => ?_) (fun hc7 => ?_)
        · replace h := (if_pos hc7).symm.trans h
          refine z_iconst (pc := 53) hX dX5_ends_53 ?_
          refine z_istore (pc := 54) (lv' := [(5, .int (zI 0)), (4, .int (zI x3)), (3, .int (zI x2)), (0, .ref (ad 0)), (1, .int (zI a1)), (2, .int (zI a2))]) hX dX5_ends_54 (by decide) rfl ?_
          refine z_sub [3, 5, 2, 0] rfl ?_
          refine wX5_ends_L56 hG  hX (fun y56_3 y56_5 h => ?_) _ _ _ h
          refine z_aload_n (pc := 78) hX 0 dX5_ends_78 rfl rfl ?_
          refine z_get (pc := 79) (c := 0) (j := 0) (v := .ref (ad 1)) hX rfl zfl_RX5_12 (Nat.le_of_ble_eq_true rfl) (zMain_e (ca := ca) (f := m 0)) rfl dX5_ends_79 ?_
          refine z_get (pc := 82) (c := 1) (j := 2) (v := .ref (ad 4)) hX rfl zfl_RX5_101 (zCat_lt (Or.inl rfl)) (zCat_e (ca := ca) (f := m 1) (Or.inl rfl)) rfl dX5_ends_82 ?_
          refine z_iload_n (pc := 85) hX 2 dX5_ends_85 rfl rfl ?_
          obtain ⟨x6, hx6, hi6, h⟩ := zrd_s h
          refine z_iald (pc := 86) (c := 4) hX (zCat_a3 (Or.inl rfl)) hi6 hx6 dX5_ends_86 ?_
          exact z_iret (pc := 87) hX rfl rfl (Option.some.inj h) rfl dX5_ends_87
        · replace h := (if_neg hc7).symm.trans h
          refine z_bipush (pc := 50) hX dX5_ends_50 (by decide +kernel) ?_
          exact z_iret (pc := 52) hX rfl rfl (Option.some.inj h) rfl dX5_ends_52
      · replace h := (if_pos hc8).symm.trans h
        refine z_iload (pc := 41) hX 0 dX5_ends_41 rfl ?_
        exact z_iret (pc := 43) hX rfl rfl (Option.some.inj h) rfl dX5_ends_43
    · replace h := (if_pos hc9).symm.trans h
      refine z_iconst (pc := 13) hX dX5_ends_13 ?_
      exact z_iret (pc := 14) hX rfl rfl (Option.some.inj h) rfl dX5_ends_14
def rmX5_evens : Room := { frames := 2, cells := 0, slots := 0, locals := 53 }
set_option maxRecDepth 20000 in
set_option maxHeartbeats 4000000 in
theorem wX5_evens {l : Launch} {D : va_G} {ca : Nat → ClassId} {ad : Nat → Nat} (hG : zGok (zGC D ca ad)) {a1 : Int} {r0 : Int} {m0 : zM} {m : zM} (h : FX5_evens a1 m = some (r0, m0)) : zCt l (zGC D ca ad) yX5_evens cX5_evens 3 (some .int) rmX5_evens [.ref (ad 0), .int (zI a1)] m (some (.int (zI r0))) m0 := by
  unfold FX5_evens at h
  refine z_of (plainFor_of_name (by decide +kernel)) hG (Nat.le_of_ble_eq_true rfl) (fun X hX => ?_)
  show zV X 3 m 0 [(0, .ref (ad 0)), (1, .int (zI a1))] []
  refine z_iload_n (pc := 0) hX 1 dX5_evens_0 rfl rfl ?_
  refine z_iconst (pc := 1) hX dX5_evens_1 ?_
  refine z_aload_n (pc := 2) hX 0 dX5_evens_2 rfl rfl ?_
  refine z_get (pc := 3) (c := 0) (j := 0) (v := .ref (ad 1)) hX rfl zfl_RX5_12 (Nat.le_of_ble_eq_true rfl) (zMain_e (ca := ca) (f := m 0)) rfl dX5_evens_3 ?_
  refine z_get (pc := 6) (c := 1) (j := 9) (v := .int (zI (m 1 9))) hX rfl zfl_RX5_64 (zCat_lt (Or.inl rfl)) (zCat_e (ca := ca) (f := m 1) (Or.inl rfl)) rfl dX5_evens_6 ?_
  obtain ⟨r1, hr1, h⟩ := zcl_s h
  refine z_callSr (pc := 9) hX [.int (zI a1), .int (zI 0), .int (zI (m 1 9))] [] (wX5_within (ca := ca) hG  hr1) zms_RX5_129 rfl rfl ⟨rfl, rfl⟩ ⟨by decide, by decide⟩ (Nat.le_of_ble_eq_true rfl) dX5_evens_9 ?_
  refine z_if_ne (pc := 12) (tgt := 17) hX dX5_evens_12 (by decide) (fun hc5 => ?_) (fun hc5 => ?_)
  · replace h := (if_neg hc5).symm.trans h
    refine z_aload_n (pc := 17) hX 0 dX5_evens_17 rfl rfl ?_
    refine z_get (pc := 18) (c := 0) (j := 3) (v := .ref (ad 25)) hX rfl zfl_RX5_29 (Nat.le_of_ble_eq_true rfl) (zMain_e (ca := ca) (f := m 0)) rfl dX5_evens_18 ?_
    refine z_aload_n (pc := 21) hX 0 dX5_evens_21 rfl rfl ?_
    refine z_get (pc := 22) (c := 0) (j := 0) (v := .ref (ad 1)) hX rfl zfl_RX5_12 (Nat.le_of_ble_eq_true rfl) (zMain_e (ca := ca) (f := m 0)) rfl dX5_evens_22 ?_
    refine z_iload_n (pc := 25) hX 1 dX5_evens_25 rfl rfl ?_
    refine z_iconst (pc := 26) hX dX5_evens_26 ?_
    obtain ⟨m2, hr2, h⟩ := zcl_s h
    refine z_callVv (pc := 27) (v := .null) (c := 25) hX [.ref (ad 1), .int (zI a1), .int (zI 1)] [] (wX2_cut (ca := ca) hG (Or.inl rfl) hr2) rfl zmv_RX5_166 (Nat.le_of_ble_eq_true rfl) (zCut_e (ca := ca) (f := m 25)) rfl rfl ⟨rfl, rfl⟩ ⟨by decide, by decide⟩ (Nat.le_of_ble_eq_true rfl) dX5_evens_27 ?_
    refine z_aload_n (pc := 30) hX 0 dX5_evens_30 rfl rfl ?_
    refine z_get (pc := 31) (c := 0) (j := 3) (v := .ref (ad 25)) hX rfl zfl_RX5_29 (Nat.le_of_ble_eq_true rfl) (zMain_e (ca := ca) (f := m2 0)) rfl dX5_evens_31 ?_
    obtain ⟨r3, hr3, h⟩ := zcl_s h
    refine z_callVr (pc := 34) (c := 25) hX [] [] (wX2_pieces (ca := ca) hG  hr3) rfl zmv_RX5_170 (Nat.le_of_ble_eq_true rfl) (zCut_e (ca := ca) (f := m2 25)) rfl rfl ⟨rfl, rfl⟩ ⟨by decide, by decide⟩ (Nat.le_of_ble_eq_true rfl) dX5_evens_34 ?_
    refine z_istore_n (pc := 37) (lv' := [(2, .int (zI r3)), (0, .ref (ad 0)), (1, .int (zI a1))]) hX dX5_evens_37 rfl (by decide) rfl ?_
    refine z_iload_n (pc := 38) hX 0 dX5_evens_38 rfl rfl ?_
    refine z_sipush (pc := 39) hX dX5_evens_39 (by decide +kernel) ?_
    refine z_icmp_ge (pc := 42) (tgt := 49) hX dX5_evens_42 (by decide) (fun hc4 => ?_) (fun hc4 => ?_)
    · replace h := (if_neg hc4).symm.trans h
      refine z_bipush (pc := 49) hX dX5_evens_49 (by decide +kernel) ?_
      exact z_iret (pc := 51) hX rfl rfl (Prod.mk.inj (Option.some.inj h)).1 (Prod.mk.inj (Option.some.inj h)).2 dX5_evens_51
    · replace h := (if_pos hc4).symm.trans h
      refine z_iload_n (pc := 45) hX 0 dX5_evens_45 rfl rfl ?_
      refine z_goto (pc := 46) (tgt := 51) hX dX5_evens_46 (by decide) ?_
      exact z_iret (pc := 51) hX rfl rfl (Prod.mk.inj (Option.some.inj h)).1 (Prod.mk.inj (Option.some.inj h)).2 dX5_evens_51
  · replace h := (if_pos hc5).symm.trans h
    refine z_iconst (pc := 15) hX dX5_evens_15 ?_
    exact z_iret (pc := 16) hX rfl rfl (Prod.mk.inj (Option.some.inj h)).1 (Prod.mk.inj (Option.some.inj h)).2 dX5_evens_16
def rmX5_feed : Room := { frames := 1, cells := 0, slots := 0, locals := 21 }
set_option maxRecDepth 20000 in
set_option maxHeartbeats 4000000 in
theorem wX5_feed {l : Launch} {D : va_G} {ca : Nat → ClassId} {ad : Nat → Nat} (hG : zGok (zGC D ca ad)) {a1 : Int} {r0 : Int} {m0 : zM} {m : zM} (h : FX5_feed a1 m = some (r0, m0)) : zCt l (zGC D ca ad) yX5_feed cX5_feed 2 (some .int) rmX5_feed [.ref (ad 0), .int (zI a1)] m (some (.int (zI r0))) m0 := by
  unfold FX5_feed at h
  refine z_of (plainFor_of_name (by decide +kernel)) hG (Nat.le_of_ble_eq_true rfl) (fun X hX => ?_)
  show zV X 2 m 0 [(0, .ref (ad 0)), (1, .int (zI a1))] []
  refine z_iload_n (pc := 0) hX 1 dX5_feed_0 rfl rfl ?_
  obtain ⟨g1, h⟩ := zgd_s h
  refine z_i2l (pc := 1) hX g1 dX5_feed_1 ?_
  obtain ⟨r2, hr2, h⟩ := zcl_s h
  refine z_callSr (pc := 2) hX [.long (zJ a1)] [] (wX5_isByte (ca := ca) hG  hr2) zms_RX5_211 rfl rfl ⟨rfl, rfl⟩ ⟨by decide, by decide⟩ (Nat.le_of_ble_eq_true rfl) dX5_feed_2 ?_
  refine z_if_ne (pc := 5) (tgt := 10) hX dX5_feed_5 (by decide) (fun hc5 => ?_) (fun hc5 => ?_)
  · replace h := (if_neg hc5).symm.trans h
    refine z_aload_n (pc := 10) hX 0 dX5_feed_10 rfl rfl ?_
    refine z_get (pc := 11) (c := 0) (j := 5) (v := .ref (ad 33)) hX rfl zfl_RX5_42 (Nat.le_of_ble_eq_true rfl) (zMain_e (ca := ca) (f := m 0)) rfl dX5_feed_11 ?_
    refine z_get (pc := 14) (c := 33) (j := 1) (v := .int (zI (m 33 1))) hX rfl zfl_RX5_137 (zRow_lt (Or.inr (Or.inr rfl))) (zRow_e (ca := ca) (f := m 33) (Or.inr (Or.inr rfl))) rfl dX5_feed_14 ?_
    refine z_bipush (pc := 17) hX dX5_feed_17 (by decide +kernel) ?_
    refine z_icmp_ne (pc := 19) (tgt := 25) hX dX5_feed_19 (by decide) (fun hc4 => ?_) (fun hc4 => ?_)
    · replace h := (if_neg hc4).symm.trans h
      refine z_aload_n (pc := 25) hX 0 dX5_feed_25 rfl rfl ?_
      refine z_get (pc := 26) (c := 0) (j := 5) (v := .ref (ad 33)) hX rfl zfl_RX5_42 (Nat.le_of_ble_eq_true rfl) (zMain_e (ca := ca) (f := m 0)) rfl dX5_feed_26 ?_
      refine z_iload_n (pc := 29) hX 1 dX5_feed_29 rfl rfl ?_
      obtain ⟨m3, hr3, h⟩ := zcl_s h
      refine z_callVv (pc := 30) (v := .null) (c := 33) hX [.int (zI a1)] [] (wX3_append (ca := ca) hG (Or.inr (Or.inr rfl)) hr3) rfl zmv_RX5_215 (zRow_lt (Or.inr (Or.inr rfl))) (zRow_e (ca := ca) (f := m 33) (Or.inr (Or.inr rfl))) rfl rfl ⟨rfl, rfl⟩ ⟨by decide, by decide⟩ (Nat.le_of_ble_eq_true rfl) dX5_feed_30 ?_
      refine z_aload_n (pc := 33) hX 0 dX5_feed_33 rfl rfl ?_
      refine z_get (pc := 34) (c := 0) (j := 5) (v := .ref (ad 33)) hX rfl zfl_RX5_42 (Nat.le_of_ble_eq_true rfl) (zMain_e (ca := ca) (f := m3 0)) rfl dX5_feed_34 ?_
      refine z_get (pc := 37) (c := 33) (j := 1) (v := .int (zI (m3 33 1))) hX rfl zfl_RX5_137 (zRow_lt (Or.inr (Or.inr rfl))) (zRow_e (ca := ca) (f := m3 33) (Or.inr (Or.inr rfl))) rfl dX5_feed_37 ?_
      exact z_iret (pc := 40) hX rfl rfl (Prod.mk.inj (Option.some.inj h)).1 (Prod.mk.inj (Option.some.inj h)).2 dX5_feed_40
    · replace h := (if_pos hc4).symm.trans h
      refine z_bipush (pc := 22) hX dX5_feed_22 (by decide +kernel) ?_
      exact z_iret (pc := 24) hX rfl rfl (Prod.mk.inj (Option.some.inj h)).1 (Prod.mk.inj (Option.some.inj h)).2 dX5_feed_24
  · replace h := (if_pos hc5).symm.trans h
    refine z_iconst (pc := 8) hX dX5_feed_8 ?_
    exact z_iret (pc := 9) hX rfl rfl (Prod.mk.inj (Option.some.inj h)).1 (Prod.mk.inj (Option.some.inj h)).2 dX5_feed_9
def rmX5_fewestFills : Room := { frames := 1, cells := 0, slots := 0, locals := 21 }
set_option maxRecDepth 20000 in
set_option maxHeartbeats 4000000 in
theorem wX5_fewestFills_L36 {X : zXT} {l : Launch} {D : va_G} {ca : Nat → ClassId} {ad : Nat → Nat} (hG : zGok (zGC D ca ad))   {r0 : Int} {m0 : zM} {k2 : Int} (hX : zC X l rmX5_fewestFills (zGC D ca ad) (some (.int (zI r0))) m0 cX5_fewestFills 6 RX5 (some .int)) {k : Int → Int → zM → Option (Int × zM)} (hk : ∀ (v3 : Int) (v4 : Int) (m_ : zM), k v3 v4 m_ = some (r0, m0) → zV X 6 m_ 103 [(0, .ref (ad 0)), (1, .ref (ad 2)), (2, .int (zI k2)), (3, .int (zI v3)), (4, .int (zI v4))] []) : ∀ (n : Nat) (v3 : Int) (v4 : Int) (m_ : zM), FX5_fewestFills_L36 k2 k n v3 v4 m_ = some (r0, m0) → zV X 6 m_ 36 [(0, .ref (ad 0)), (1, .ref (ad 2)), (2, .int (zI k2)), (3, .int (zI v3)), (4, .int (zI v4))] [] := by
  intro n
  induction n with
  | zero => intro v3 v4 m_ h; cases h
  | succ n ih =>
    intro v3 v4 m_ h
    replace h : FX5_fewestFills_L36_B k2 k (FX5_fewestFills_L36 k2 k n) v3 v4 m_ = some (r0, m0) := h
    unfold FX5_fewestFills_L36_B at h
    refine z_iload (pc := 36) hX 4 dX5_fewestFills_36 rfl ?_
    refine z_aload_n (pc := 38) hX 0 dX5_fewestFills_38 rfl rfl ?_
    refine z_get (pc := 39) (c := 0) (j := 0) (v := .ref (ad 1)) hX rfl zfl_RX5_12 (Nat.le_of_ble_eq_true rfl) (zMain_e (ca := ca) (f := m_ 0)) rfl dX5_fewestFills_39 ?_
    refine z_get (pc := 42) (c := 1) (j := 9) (v := .int (zI (m_ 1 9))) hX rfl zfl_RX5_64 (zCat_lt (Or.inl rfl)) (zCat_e (ca := ca) (f := m_ 1) (Or.inl rfl)) rfl dX5_fewestFills_42 ?_
    refine z_icmp_ge (pc := 45) (tgt := 103) hX dX5_fewestFills_45 (by decide) (fun hc10 => ?_) (fun hc10 => ?_)
    · replace h := (if_neg hc10).symm.trans h
      exact hk _ _ _ h
    · replace h := (if_pos hc10).symm.trans h
      refine z_aload_n (pc := 48) hX 0 dX5_fewestFills_48 rfl rfl ?_
      refine z_get (pc := 49) (c := 0) (j := 8) (v := .ref (ad 45)) hX rfl zfl_RX5_57 (Nat.le_of_ble_eq_true rfl) (zMain_e (ca := ca) (f := m_ 0)) rfl dX5_fewestFills_49 ?_
      refine z_iload (pc := 52) hX 4 dX5_fewestFills_52 rfl ?_
      obtain ⟨x2, hx2, hi2, h⟩ := zrd_s h
      refine z_iald (pc := 54) (c := 45) hX zCi45 hi2 hx2 dX5_fewestFills_54 ?_
      refine z_istore (pc := 55) (lv' := [(5, .int (zI x2)), (0, .ref (ad 0)), (1, .ref (ad 2)), (2, .int (zI k2)), (3, .int (zI v3)), (4, .int (zI v4))]) hX dX5_fewestFills_55 (by decide) rfl ?_
      refine z_aload_n (pc := 57) hX 1 dX5_fewestFills_57 rfl rfl ?_
      refine z_get (pc := 58) (c := 0) (j := 8) (v := .ref (ad 45)) hX rfl zfl_RX5_57 (Nat.le_of_ble_eq_true rfl) (zMain_e (ca := ca) (f := m_ 0)) rfl dX5_fewestFills_58 ?_
      refine z_iload (pc := 61) hX 5 dX5_fewestFills_61 rfl ?_
      refine z_aload_n (pc := 63) hX 2 dX5_fewestFills_63 rfl rfl ?_
      refine z_iload_n (pc := 64) hX 3 dX5_fewestFills_64 rfl rfl ?_
      obtain ⟨x3, hx3, hi3, h⟩ := zrd_s h
      refine z_iald (pc := 65) (c := 2) hX (zCat_a1 (Or.inl rfl)) hi3 hx3 dX5_fewestFills_65 ?_
      refine z_aload_n (pc := 66) hX 2 dX5_fewestFills_66 rfl rfl ?_
      refine z_iload (pc := 67) hX 5 dX5_fewestFills_67 rfl ?_
      obtain ⟨x4, hx4, hi4, h⟩ := zrd_s h
      refine z_iald (pc := 69) (c := 2) hX (zCat_a1 (Or.inl rfl)) hi4 hx4 dX5_fewestFills_69 ?_
      refine z_icmp_ne (pc := 70) (tgt := 77) hX dX5_fewestFills_70 (by decide) (fun hc9 => ?_) (fun hc9 => ?_)
      · replace h := (if_neg hc9).symm.trans h
        refine z_iconst (pc := 77) hX dX5_fewestFills_77 ?_
        refine z_iload (pc := 78) hX 0 dX5_fewestFills_78 rfl ?_
        refine z_aload_n (pc := 80) hX 1 dX5_fewestFills_80 rfl rfl ?_
        refine z_get (pc := 81) (c := 0) (j := 8) (v := .ref (ad 45)) hX rfl zfl_RX5_57 (Nat.le_of_ble_eq_true rfl) (zMain_e (ca := ca) (f := m_ 0)) rfl dX5_fewestFills_81 ?_
        refine z_iload (pc := 84) hX 5 dX5_fewestFills_84 rfl ?_
        refine z_iconst (pc := 86) hX dX5_fewestFills_86 ?_
        refine z_isub (pc := 87) hX dX5_fewestFills_87 ?_
        obtain ⟨x5, hx5, hi5, h⟩ := zrd_s h
        refine z_iald (pc := 88) (c := 45) hX zCi45 hi5 hx5 dX5_fewestFills_88 ?_
        obtain ⟨r6, hr6, h⟩ := zcl_s h
        refine z_callSr (pc := 89) hX [.int (zI x2), .int (zI x5)] [.int (zI 1), .int (zI v4), .ref (ad 45)] (wJ9_min_7cf53 (ca := ca) hG  hr6) zms_RX5_263 rfl rfl ⟨rfl, rfl⟩ ⟨by decide, by decide⟩ (Nat.le_of_ble_eq_true rfl) dX5_fewestFills_89 ?_
        refine z_iadd (pc := 92) hX dX5_fewestFills_92 ?_
        obtain ⟨m7, hm7, hi7, h⟩ := zwr_s h
        refine z_iast (pc := 93) (c := 45) hX zCi45 hi7 hm7 dX5_fewestFills_93 ?_
        refine z_iload (pc := 94) hX 0 dX5_fewestFills_94 rfl ?_
        refine z_istore_n (pc := 96) (lv' := [(3, .int (zI x2)), (5, .int (zI x2)), (0, .ref (ad 0)), (1, .ref (ad 2)), (2, .int (zI k2)), (4, .int (zI v4))]) hX dX5_fewestFills_96 rfl (by decide) rfl ?_
        refine z_iinc (pc := 97) (lv' := [(4, .int (zI (v4 + 1))), (3, .int (zI x2)), (5, .int (zI x2)), (0, .ref (ad 0)), (1, .ref (ad 2)), (2, .int (zI k2))]) hX 5 dX5_fewestFills_97 rfl (by decide) rfl ?_
        refine z_goto (pc := 100) (tgt := 36) hX dX5_fewestFills_100 (by decide) ?_
        refine z_sub [3, 4, 5, 1, 0] rfl ?_
        exact ih _ _ _ h
      · replace h := (if_pos hc9).symm.trans h
        refine z_iload_n (pc := 73) hX 4 dX5_fewestFills_73 rfl rfl ?_
        refine z_goto (pc := 74) (tgt := 93) hX dX5_fewestFills_74 (by decide) ?_
        obtain ⟨m8, hm8, hi8, h⟩ := zwr_s h
        refine z_iast (pc := 93) (c := 45) hX zCi45 hi8 hm8 dX5_fewestFills_93 ?_
        refine z_iload (pc := 94) hX 0 dX5_fewestFills_94 rfl ?_
        refine z_istore_n (pc := 96) (lv' := [(3, .int (zI x2)), (5, .int (zI x2)), (0, .ref (ad 0)), (1, .ref (ad 2)), (2, .int (zI k2)), (4, .int (zI v4))]) hX dX5_fewestFills_96 rfl (by decide) rfl ?_
        refine z_iinc (pc := 97) (lv' := [(4, .int (zI (v4 + 1))), (3, .int (zI x2)), (5, .int (zI x2)), (0, .ref (ad 0)), (1, .ref (ad 2)), (2, .int (zI k2))]) hX 5 dX5_fewestFills_97 rfl (by decide) rfl ?_
        refine z_goto (pc := 100) (tgt := 36) hX dX5_fewestFills_100 (by decide) ?_
        refine z_sub [3, 4, 5, 1, 0] rfl ?_
        exact ih _ _ _ h
set_option maxRecDepth 20000 in
set_option maxHeartbeats 4000000 in
theorem wX5_fewestFills_L18 {X : zXT} {l : Launch} {D : va_G} {ca : Nat → ClassId} {ad : Nat → Nat} (hG : zGok (zGC D ca ad))   {r0 : Int} {m0 : zM}  (hX : zC X l rmX5_fewestFills (zGC D ca ad) (some (.int (zI r0))) m0 cX5_fewestFills 6 RX5 (some .int)) {k : Int → zM → Option (Int × zM)} (hk : ∀ (v2 : Int) (m_ : zM), k v2 m_ = some (r0, m0) → zV X 6 m_ 109 [(0, .ref (ad 0)), (1, .ref (ad 2)), (2, .int (zI v2))] []) : ∀ (n : Nat) (v2 : Int) (m_ : zM), FX5_fewestFills_L18  k n v2 m_ = some (r0, m0) → zV X 6 m_ 18 [(0, .ref (ad 0)), (1, .ref (ad 2)), (2, .int (zI v2))] [] := by
  intro n
  induction n with
  | zero => intro v2 m_ h; cases h
  | succ n ih =>
    intro v2 m_ h
    replace h : FX5_fewestFills_L18_B  k (FX5_fewestFills_L18  k n) v2 m_ = some (r0, m0) := h
    unfold FX5_fewestFills_L18_B at h
    refine z_iload_n (pc := 18) hX 2 dX5_fewestFills_18 rfl rfl ?_
    refine z_if_lt (pc := 19) (tgt := 109) hX dX5_fewestFills_19 (by decide) (fun hc11 => ?_) (fun hc11 => ?_)
    · replace h := (if_pos hc11).symm.trans h
      exact hk _ _ h
    · replace h := (if_neg hc11).symm.trans h
      refine z_iconst (pc := 22) hX dX5_fewestFills_22 ?_
      refine z_istore_n (pc := 23) (lv' := [(3, .int (zI 0)), (0, .ref (ad 0)), (1, .ref (ad 2)), (2, .int (zI v2))]) hX dX5_fewestFills_23 rfl (by decide) rfl ?_
      refine z_aload_n (pc := 24) hX 1 dX5_fewestFills_24 rfl rfl ?_
      refine z_get (pc := 25) (c := 0) (j := 8) (v := .ref (ad 45)) hX rfl zfl_RX5_57 (Nat.le_of_ble_eq_true rfl) (zMain_e (ca := ca) (f := m_ 0)) rfl dX5_fewestFills_25 ?_
      refine z_iload_n (pc := 28) hX 3 dX5_fewestFills_28 rfl rfl ?_
      refine z_iconst (pc := 29) hX dX5_fewestFills_29 ?_
      obtain ⟨m1, hm1, hi1, h⟩ := zwr_s h
      refine z_iast (pc := 30) (c := 45) hX zCi45 hi1 hm1 dX5_fewestFills_30 ?_
      refine z_iload_n (pc := 31) hX 3 dX5_fewestFills_31 rfl rfl ?_
      refine z_iconst (pc := 32) hX dX5_fewestFills_32 ?_
      refine z_iadd (pc := 33) hX dX5_fewestFills_33 ?_
      refine z_istore (pc := 34) (lv' := [(4, .int (zI (v2 + 1))), (3, .int (zI 0)), (0, .ref (ad 0)), (1, .ref (ad 2)), (2, .int (zI v2))]) hX dX5_fewestFills_34 (by decide) rfl ?_
      refine z_sub [2, 3, 4, 1, 0] rfl ?_
      refine wX5_fewestFills_L36 hG  hX (fun y36_3 y36_4 m36_ h => ?_) _ _ _ _ h
      refine z_iinc (pc := 103) (lv' := [(2, .int (zI (v2 + -1))), (0, .ref (ad 0)), (1, .ref (ad 2)), (3, .int (zI y36_3)), (4, .int (zI y36_4))]) hX 2 dX5_fewestFills_103 rfl (by decide) rfl ?_
      refine z_goto (pc := 106) (tgt := 18) hX dX5_fewestFills_106 (by decide) ?_
      refine z_sub [1, 2, 0] rfl ?_
      exact ih _ _ h
set_option maxRecDepth 20000 in
set_option maxHeartbeats 4000000 in
theorem wX5_fewestFills {l : Launch} {D : va_G} {ca : Nat → ClassId} {ad : Nat → Nat} (hG : zGok (zGC D ca ad))  {r0 : Int} {m0 : zM} {m : zM} (h : FX5_fewestFills m = some (r0, m0)) : zCt l (zGC D ca ad) yX5_fewestFills cX5_fewestFills 6 (some .int) rmX5_fewestFills [.ref (ad 0)] m (some (.int (zI r0))) m0 := by
  unfold FX5_fewestFills at h
  refine z_of (plainFor_of_name (by decide +kernel)) hG (Nat.le_of_ble_eq_true rfl) (fun X hX => ?_)
  show zV X 6 m 0 [(0, .ref (ad 0))] []
  refine z_aload_n (pc := 0) hX 0 dX5_fewestFills_0 rfl rfl ?_
  refine z_get (pc := 1) (c := 0) (j := 0) (v := .ref (ad 1)) hX rfl zfl_RX5_12 (Nat.le_of_ble_eq_true rfl) (zMain_e (ca := ca) (f := m 0)) rfl dX5_fewestFills_1 ?_
  refine z_get (pc := 4) (c := 1) (j := 0) (v := .ref (ad 2)) hX rfl zfl_RX5_86 (zCat_lt (Or.inl rfl)) (zCat_e (ca := ca) (f := m 1) (Or.inl rfl)) rfl dX5_fewestFills_4 ?_
  refine z_astore_n (pc := 7) (lv' := [(1, .ref (ad 2)), (0, .ref (ad 0))]) hX dX5_fewestFills_7 rfl (by decide) rfl ?_
  refine z_aload_n (pc := 8) hX 1 dX5_fewestFills_8 rfl rfl ?_
  refine z_get (pc := 9) (c := 0) (j := 0) (v := .ref (ad 1)) hX rfl zfl_RX5_12 (Nat.le_of_ble_eq_true rfl) (zMain_e (ca := ca) (f := m 0)) rfl dX5_fewestFills_9 ?_
  refine z_get (pc := 12) (c := 1) (j := 9) (v := .int (zI (m 1 9))) hX rfl zfl_RX5_64 (zCat_lt (Or.inl rfl)) (zCat_e (ca := ca) (f := m 1) (Or.inl rfl)) rfl dX5_fewestFills_12 ?_
  refine z_iconst (pc := 15) hX dX5_fewestFills_15 ?_
  refine z_isub (pc := 16) hX dX5_fewestFills_16 ?_
  refine z_istore_n (pc := 17) (lv' := [(2, .int (zI ((m 1 9) - 1))), (1, .ref (ad 2)), (0, .ref (ad 0))]) hX dX5_fewestFills_17 rfl (by decide) rfl ?_
  refine z_sub [2, 1, 0] rfl ?_
  refine wX5_fewestFills_L18 hG  hX (fun y18_2 m18_ h => ?_) _ _ _ h
  refine z_aload_n (pc := 109) hX 0 dX5_fewestFills_109 rfl rfl ?_
  refine z_get (pc := 110) (c := 0) (j := 0) (v := .ref (ad 1)) hX rfl zfl_RX5_12 (Nat.le_of_ble_eq_true rfl) (zMain_e (ca := ca) (f := m18_ 0)) rfl dX5_fewestFills_110 ?_
  refine z_get (pc := 113) (c := 1) (j := 9) (v := .int (zI (m18_ 1 9))) hX rfl zfl_RX5_64 (zCat_lt (Or.inl rfl)) (zCat_e (ca := ca) (f := m18_ 1) (Or.inl rfl)) rfl dX5_fewestFills_113 ?_
  refine z_if_ne (pc := 116) (tgt := 123) hX dX5_fewestFills_116 (by decide) (fun hc13 => ?_) (fun hc13 => ?_)
  · replace h := (if_neg hc13).symm.trans h
    refine z_aload_n (pc := 123) hX 0 dX5_fewestFills_123 rfl rfl ?_
    refine z_get (pc := 124) (c := 0) (j := 8) (v := .ref (ad 45)) hX rfl zfl_RX5_57 (Nat.le_of_ble_eq_true rfl) (zMain_e (ca := ca) (f := m18_ 0)) rfl dX5_fewestFills_124 ?_
    refine z_aload_n (pc := 127) hX 0 dX5_fewestFills_127 rfl rfl ?_
    refine z_get (pc := 128) (c := 0) (j := 0) (v := .ref (ad 1)) hX rfl zfl_RX5_12 (Nat.le_of_ble_eq_true rfl) (zMain_e (ca := ca) (f := m18_ 0)) rfl dX5_fewestFills_128 ?_
    refine z_get (pc := 131) (c := 1) (j := 9) (v := .int (zI (m18_ 1 9))) hX rfl zfl_RX5_64 (zCat_lt (Or.inl rfl)) (zCat_e (ca := ca) (f := m18_ 1) (Or.inl rfl)) rfl dX5_fewestFills_131 ?_
    refine z_iconst (pc := 134) hX dX5_fewestFills_134 ?_
    refine z_isub (pc := 135) hX dX5_fewestFills_135 ?_
    obtain ⟨x12, hx12, hi12, h⟩ := zrd_s h
    refine z_iald (pc := 136) (c := 45) hX zCi45 hi12 hx12 dX5_fewestFills_136 ?_
    exact z_iret (pc := 137) hX rfl rfl (Prod.mk.inj (Option.some.inj h)).1 (Prod.mk.inj (Option.some.inj h)).2 dX5_fewestFills_137
  · replace h := (if_pos hc13).symm.trans h
    refine z_iconst (pc := 119) hX dX5_fewestFills_119 ?_
    refine z_goto (pc := 120) (tgt := 137) hX dX5_fewestFills_120 (by decide) ?_
    exact z_iret (pc := 137) hX rfl rfl (Prod.mk.inj (Option.some.inj h)).1 (Prod.mk.inj (Option.some.inj h)).2 dX5_fewestFills_137
