def rmJ7_fill_53178 : Room := { frames := 0, cells := 0, slots := 0, locals := 0 }
set_option maxRecDepth 20000 in
set_option maxHeartbeats 4000000 in
theorem wJ7_fill_53178_L5 {X : zXT} {l : Launch} {G : zG} (hG : zGok G) {c0 n0 : Nat} (h0 : zInts G c0 n0) {a1 : Int}  {m0 : zM} {k3 : Int} (hX : zC X l rmJ7_fill_53178 G none m0 cJ7_fill_53178 4 RJ7 none) {k : Int → zM → Option (zM)} (hk : ∀ (v2 : Int) (m_ : zM), k v2 m_ = some m0 → zV X 4 m_ 20 [(0, .ref (G.2.2.2.2.2 c0)), (1, .int (zI a1)), (2, .int (zI v2)), (3, .int (zI k3))] []) : ∀ (n : Nat) (v2 : Int) (m_ : zM), FJ7_fill_53178_L5 c0 n0 a1 k3 k n v2 m_ = some m0 → zV X 4 m_ 5 [(0, .ref (G.2.2.2.2.2 c0)), (1, .int (zI a1)), (2, .int (zI v2)), (3, .int (zI k3))] [] := by
  intro n
  induction n with
  | zero => intro v2 m_ h; cases h
  | succ n ih =>
    intro v2 m_ h
    replace h : FJ7_fill_53178_L5_B c0 n0 a1 k3 k (FJ7_fill_53178_L5 c0 n0 a1 k3 k n) v2 m_ = some m0 := h
    unfold FJ7_fill_53178_L5_B at h
    refine z_iload_n (pc := 5) hX 2 dJ7_fill_53178_5 rfl rfl ?_
    refine z_iload_n (pc := 6) hX 3 dJ7_fill_53178_6 rfl rfl ?_
    refine z_icmp_ge (pc := 7) (tgt := 20) hX dJ7_fill_53178_7 (by decide) (fun hc2 => ?_) (fun hc2 => ?_)
    · replace h := (if_neg hc2).symm.trans h
      exact hk _ _ h
    · replace h := (if_pos hc2).symm.trans h
      refine z_aload_n (pc := 10) hX 0 dJ7_fill_53178_10 rfl rfl ?_
      refine z_iload_n (pc := 11) hX 2 dJ7_fill_53178_11 rfl rfl ?_
      refine z_iload_n (pc := 12) hX 1 dJ7_fill_53178_12 rfl rfl ?_
      obtain ⟨m1, hm1, hi1, h⟩ := zwr_s h
      refine z_iast (pc := 13) (c := c0) hX h0 hi1 hm1 dJ7_fill_53178_13 ?_
      refine z_iinc (pc := 14) (lv' := [(2, .int (zI (v2 + 1))), (0, .ref (G.2.2.2.2.2 c0)), (1, .int (zI a1)), (3, .int (zI k3))]) hX 2 dJ7_fill_53178_14 rfl (by decide) rfl ?_
      refine z_goto (pc := 17) (tgt := 5) hX dJ7_fill_53178_17 (by decide) ?_
      refine z_sub [1, 2, 0, 3] rfl ?_
      exact ih _ _ h
set_option maxRecDepth 20000 in
set_option maxHeartbeats 4000000 in
theorem wJ7_fill_53178 {l : Launch} {G : zG} (hG : zGok G) {c0 n0 : Nat} (h0 : zInts G c0 n0) {a1 : Int} {m0 : zM} {m : zM} (h : FJ7_fill_53178 c0 n0 a1 m = some m0) : zCt l G yJ7_fill_53178 cJ7_fill_53178 4 none rmJ7_fill_53178 [.ref (G.2.2.2.2.2 c0), .int (zI a1)] m none m0 := by
  unfold FJ7_fill_53178 at h
  refine z_of (by decide +kernel) hG (Nat.le_of_ble_eq_true rfl) (fun X hX => ?_)
  show zV X 4 m 0 [(0, .ref (G.2.2.2.2.2 c0)), (1, .int (zI a1))] []
  refine z_iconst (pc := 0) hX dJ7_fill_53178_0 ?_
  refine z_istore_n (pc := 1) (lv' := [(2, .int (zI 0)), (0, .ref (G.2.2.2.2.2 c0)), (1, .int (zI a1))]) hX dJ7_fill_53178_1 rfl (by decide) rfl ?_
  refine z_aload_n (pc := 2) hX 1 dJ7_fill_53178_2 rfl rfl ?_
  refine z_alen (pc := 3) (c := c0) hX h0 dJ7_fill_53178_3 ?_
  refine z_istore_n (pc := 4) (lv' := [(3, .int (zI (n0 : Int))), (2, .int (zI 0)), (0, .ref (G.2.2.2.2.2 c0)), (1, .int (zI a1))]) hX dJ7_fill_53178_4 rfl (by decide) rfl ?_
  refine z_sub [2, 3, 1, 0] rfl ?_
  refine wJ7_fill_53178_L5 hG h0 hX (fun y5_2 m5_ h => ?_) _ _ _ h
  exact z_vret (pc := 20) hX rfl rfl (Option.some.inj h) dJ7_fill_53178_20
def rmJ7_fill_d0a16 : Room := { frames := 0, cells := 0, slots := 0, locals := 0 }
set_option maxRecDepth 20000 in
set_option maxHeartbeats 4000000 in
theorem wJ7_fill_d0a16_L6 {X : zXT} {l : Launch} {G : zG} (hG : zGok G) {c0 n0 : Nat} (h0 : zLongs G c0 n0) {a1 : Int}  {m0 : zM} {k4 : Int} (hX : zC X l rmJ7_fill_d0a16 G none m0 cJ7_fill_d0a16 5 RJ7 none) {k : Int → zM → Option (zM)} (hk : ∀ (v3 : Int) (m_ : zM), k v3 m_ = some m0 → zV X 5 m_ 22 [(0, .ref (G.2.2.2.2.2 c0)), (1, .long (zJ a1)), (3, .int (zI v3)), (4, .int (zI k4))] []) : ∀ (n : Nat) (v3 : Int) (m_ : zM), FJ7_fill_d0a16_L6 c0 n0 a1 k4 k n v3 m_ = some m0 → zV X 5 m_ 6 [(0, .ref (G.2.2.2.2.2 c0)), (1, .long (zJ a1)), (3, .int (zI v3)), (4, .int (zI k4))] [] := by
  intro n
  induction n with
  | zero => intro v3 m_ h; cases h
  | succ n ih =>
    intro v3 m_ h
    replace h : FJ7_fill_d0a16_L6_B c0 n0 a1 k4 k (FJ7_fill_d0a16_L6 c0 n0 a1 k4 k n) v3 m_ = some m0 := h
    unfold FJ7_fill_d0a16_L6_B at h
    refine z_iload_n (pc := 6) hX 2 dJ7_fill_d0a16_6 rfl rfl ?_
    refine z_iload (pc := 7) hX 3 dJ7_fill_d0a16_7 rfl ?_
    refine z_icmp_ge (pc := 9) (tgt := 22) hX dJ7_fill_d0a16_9 (by decide) (fun hc2 => ?_) (fun hc2 => ?_)
    · replace h := (if_neg hc2).symm.trans h
      exact hk _ _ h
    · replace h := (if_pos hc2).symm.trans h
      refine z_aload_n (pc := 12) hX 0 dJ7_fill_d0a16_12 rfl rfl ?_
      refine z_iload_n (pc := 13) hX 2 dJ7_fill_d0a16_13 rfl rfl ?_
      refine z_lload_n (pc := 14) hX 1 dJ7_fill_d0a16_14 rfl rfl ?_
      obtain ⟨m1, hm1, hi1, h⟩ := zwr_s h
      refine z_last (pc := 15) (c := c0) hX h0 hi1 hm1 dJ7_fill_d0a16_15 ?_
      refine z_iinc (pc := 16) (lv' := [(3, .int (zI (v3 + 1))), (0, .ref (G.2.2.2.2.2 c0)), (1, .long (zJ a1)), (4, .int (zI k4))]) hX 2 dJ7_fill_d0a16_16 rfl (by decide) rfl ?_
      refine z_goto (pc := 19) (tgt := 6) hX dJ7_fill_d0a16_19 (by decide) ?_
      refine z_sub [1, 2, 0, 3] rfl ?_
      exact ih _ _ h
set_option maxRecDepth 20000 in
set_option maxHeartbeats 4000000 in
theorem wJ7_fill_d0a16 {l : Launch} {G : zG} (hG : zGok G) {c0 n0 : Nat} (h0 : zLongs G c0 n0) {a1 : Int} {m0 : zM} {m : zM} (h : FJ7_fill_d0a16 c0 n0 a1 m = some m0) : zCt l G yJ7_fill_d0a16 cJ7_fill_d0a16 5 none rmJ7_fill_d0a16 [.ref (G.2.2.2.2.2 c0), .long (zJ a1)] m none m0 := by
  unfold FJ7_fill_d0a16 at h
  refine z_of (by decide +kernel) hG (Nat.le_of_ble_eq_true rfl) (fun X hX => ?_)
  show zV X 5 m 0 [(0, .ref (G.2.2.2.2.2 c0)), (1, .long (zJ a1))] []
  refine z_iconst (pc := 0) hX dJ7_fill_d0a16_0 ?_
  refine z_istore_n (pc := 1) (lv' := [(3, .int (zI 0)), (0, .ref (G.2.2.2.2.2 c0)), (1, .long (zJ a1))]) hX dJ7_fill_d0a16_1 rfl (by decide) rfl ?_
  refine z_aload_n (pc := 2) hX 1 dJ7_fill_d0a16_2 rfl rfl ?_
  refine z_alenL (pc := 3) (c := c0) hX h0 dJ7_fill_d0a16_3 ?_
  refine z_istore (pc := 4) (lv' := [(4, .int (zI (n0 : Int))), (3, .int (zI 0)), (0, .ref (G.2.2.2.2.2 c0)), (1, .long (zJ a1))]) hX dJ7_fill_d0a16_4 (by decide) rfl ?_
  refine z_sub [2, 3, 1, 0] rfl ?_
  refine wJ7_fill_d0a16_L6 hG h0 hX (fun y6_3 m6_ h => ?_) _ _ _ h
  exact z_vret (pc := 22) hX rfl rfl (Option.some.inj h) dJ7_fill_d0a16_22
def rmJ9_max_7cf53 : Room := { frames := 0, cells := 0, slots := 0, locals := 0 }
set_option maxRecDepth 20000 in
set_option maxHeartbeats 4000000 in
theorem wJ9_max_7cf53 {l : Launch} {D : va_G} {ca : Nat → ClassId} {ad : Nat → Nat} (hG : zGok (zGC D ca ad)) {a0 : Int} {a1 : Int} {r0 : Int} {m : zM} (h : FJ9_max_7cf53 a0 a1 = some r0) : zCt l (zGC D ca ad) yJ9_max_7cf53 cJ9_max_7cf53 2 (some .int) rmJ9_max_7cf53 [.int (zI a0), .int (zI a1)] m (some (.int (zI r0))) m := by
  unfold FJ9_max_7cf53 at h
  refine z_of (by decide +kernel) hG (Nat.le_of_ble_eq_true rfl) (fun X hX => ?_)
  show zV X 2 m 0 [(0, .int (zI a0)), (1, .int (zI a1))] []
  refine z_iload_n (pc := 0) hX 0 dJ9_max_7cf53_0 rfl rfl ?_
  refine z_iload_n (pc := 1) hX 1 dJ9_max_7cf53_1 rfl rfl ?_
  refine z_icmp_lt (pc := 2) (tgt := 9) hX dJ9_max_7cf53_2 (by decide) (fun hc1 => ?_) (fun hc1 => ?_)
  · replace h := (if_pos hc1).symm.trans h
    refine z_iload_n (pc := 9) hX 1 dJ9_max_7cf53_9 rfl rfl ?_
    exact z_iret (pc := 10) hX rfl rfl (Option.some.inj h) rfl dJ9_max_7cf53_10
  · replace h := (if_neg hc1).symm.trans h
    refine z_iload_n (pc := 5) hX 0 dJ9_max_7cf53_5 rfl rfl ?_
    refine z_goto (pc := 6) (tgt := 10) hX dJ9_max_7cf53_6 (by decide) ?_
    exact z_iret (pc := 10) hX rfl rfl (Option.some.inj h) rfl dJ9_max_7cf53_10
def rmJ9_min_7cf53 : Room := { frames := 0, cells := 0, slots := 0, locals := 0 }
set_option maxRecDepth 20000 in
set_option maxHeartbeats 4000000 in
theorem wJ9_min_7cf53 {l : Launch} {D : va_G} {ca : Nat → ClassId} {ad : Nat → Nat} (hG : zGok (zGC D ca ad)) {a0 : Int} {a1 : Int} {r0 : Int} {m : zM} (h : FJ9_min_7cf53 a0 a1 = some r0) : zCt l (zGC D ca ad) yJ9_min_7cf53 cJ9_min_7cf53 2 (some .int) rmJ9_min_7cf53 [.int (zI a0), .int (zI a1)] m (some (.int (zI r0))) m := by
  unfold FJ9_min_7cf53 at h
  refine z_of (by decide +kernel) hG (Nat.le_of_ble_eq_true rfl) (fun X hX => ?_)
  show zV X 2 m 0 [(0, .int (zI a0)), (1, .int (zI a1))] []
  refine z_iload_n (pc := 0) hX 0 dJ9_min_7cf53_0 rfl rfl ?_
  refine z_iload_n (pc := 1) hX 1 dJ9_min_7cf53_1 rfl rfl ?_
  refine z_icmp_gt (pc := 2) (tgt := 9) hX dJ9_min_7cf53_2 (by decide) (fun hc1 => ?_) (fun hc1 => ?_)
  · replace h := (if_pos hc1).symm.trans h
    refine z_iload_n (pc := 9) hX 1 dJ9_min_7cf53_9 rfl rfl ?_
    exact z_iret (pc := 10) hX rfl rfl (Option.some.inj h) rfl dJ9_min_7cf53_10
  · replace h := (if_neg hc1).symm.trans h
    refine z_iload_n (pc := 5) hX 0 dJ9_min_7cf53_5 rfl rfl ?_
    refine z_goto (pc := 6) (tgt := 10) hX dJ9_min_7cf53_6 (by decide) ?_
    exact z_iret (pc := 10) hX rfl rfl (Option.some.inj h) rfl dJ9_min_7cf53_10
def rmX0_forget : Room := { frames := 0, cells := 0, slots := 0, locals := 0 }
set_option maxRecDepth 20000 in
set_option maxHeartbeats 4000000 in
theorem wX0_forget {l : Launch} {D : va_G} {ca : Nat → ClassId} {ad : Nat → Nat} (hG : zGok (zGC D ca ad))  {m0 : zM} {m : zM} (h : FX0_forget m = some m0) : zCt l (zGC D ca ad) yX0_forget cX0_forget 1 none rmX0_forget [.ref (ad 21)] m none m0 := by
  unfold FX0_forget at h
  refine z_of (plainFor_of_name (by decide +kernel)) hG (Nat.le_of_ble_eq_true rfl) (fun X hX => ?_)
  show zV X 1 m 0 [(0, .ref (ad 21))] []
  refine z_aload_n (pc := 0) hX 0 dX0_forget_0 rfl rfl ?_
  refine z_iconst (pc := 1) hX dX0_forget_1 ?_
  obtain ⟨m1, hm1, h⟩ := zpf_s h
  refine z_put (pc := 2) (c := 21) (j := 3) hX rfl zfl_RX0_19 zfi_0_3 (Nat.le_of_ble_eq_true rfl) (zActs_e (ca := ca) (f := m 21)) (Nat.le_of_ble_eq_true rfl) (zActs_p3 (ca := ca)) hm1 dX0_forget_2 ?_
  exact z_vret (pc := 5) hX rfl rfl (Option.some.inj h) dX0_forget_5
def rmX0_forgetOldest : Room := { frames := 1, cells := 0, slots := 0, locals := 26 }
set_option maxRecDepth 20000 in
set_option maxHeartbeats 4000000 in
theorem wX0_forgetOldest {l : Launch} {D : va_G} {ca : Nat → ClassId} {ad : Nat → Nat} (hG : zGok (zGC D ca ad))  {m0 : zM} {m : zM} (h : FX0_forgetOldest m = some m0) : zCt l (zGC D ca ad) yX0_forgetOldest cX0_forgetOldest 1 none rmX0_forgetOldest [.ref (ad 21)] m none m0 := by
  unfold FX0_forgetOldest at h
  refine z_of (plainFor_of_name (by decide +kernel)) hG (Nat.le_of_ble_eq_true rfl) (fun X hX => ?_)
  show zV X 1 m 0 [(0, .ref (ad 21))] []
  refine z_aload_n (pc := 0) hX 0 dX0_forgetOldest_0 rfl rfl ?_
  refine z_dup (pc := 1) hX dX0_forgetOldest_1 rfl ?_
  refine z_get (pc := 2) (c := 21) (j := 3) (v := .int (zI (m 21 3))) hX rfl zfl_RX0_19 (Nat.le_of_ble_eq_true rfl) (zActs_e (ca := ca) (f := m 21)) rfl dX0_forgetOldest_2 ?_
  refine z_iconst (pc := 5) hX dX0_forgetOldest_5 ?_
  refine z_isub (pc := 6) hX dX0_forgetOldest_6 ?_
  obtain ⟨m1, hm1, h⟩ := zpf_s h
  refine z_put (pc := 7) (c := 21) (j := 3) hX rfl zfl_RX0_19 zfi_0_3 (Nat.le_of_ble_eq_true rfl) (zActs_e (ca := ca) (f := m 21)) (Nat.le_of_ble_eq_true rfl) (zActs_p3 (ca := ca)) hm1 dX0_forgetOldest_7 ?_
  refine z_aload_n (pc := 10) hX 0 dX0_forgetOldest_10 rfl rfl ?_
  refine z_get (pc := 11) (c := 21) (j := 0) (v := .ref (ad 22)) hX rfl zfl_RX0_9 (Nat.le_of_ble_eq_true rfl) (zActs_e (ca := ca) (f := m1 21)) rfl dX0_forgetOldest_11 ?_
  refine z_iconst (pc := 14) hX dX0_forgetOldest_14 ?_
  refine z_aload_n (pc := 15) hX 0 dX0_forgetOldest_15 rfl rfl ?_
  refine z_get (pc := 16) (c := 21) (j := 0) (v := .ref (ad 22)) hX rfl zfl_RX0_9 (Nat.le_of_ble_eq_true rfl) (zActs_e (ca := ca) (f := m1 21)) rfl dX0_forgetOldest_16 ?_
  refine z_iconst (pc := 19) hX dX0_forgetOldest_19 ?_
  refine z_aload_n (pc := 20) hX 0 dX0_forgetOldest_20 rfl rfl ?_
  refine z_get (pc := 21) (c := 21) (j := 3) (v := .int (zI (m1 21 3))) hX rfl zfl_RX0_19 (Nat.le_of_ble_eq_true rfl) (zActs_e (ca := ca) (f := m1 21)) rfl dX0_forgetOldest_21 ?_
  obtain ⟨m2, hm2, g2, h⟩ := zcpy_s h
  refine z_copyi (pc := 24) (c0 := 22) (c1 := 22) hX zCi22 zCi22 zmc_RX0_26 g2 hm2 ⟨by decide, Nat.le_of_ble_eq_true rfl⟩ dX0_forgetOldest_24 ?_
  refine z_aload_n (pc := 27) hX 0 dX0_forgetOldest_27 rfl rfl ?_
  refine z_get (pc := 28) (c := 21) (j := 1) (v := .ref (ad 23)) hX rfl zfl_RX0_13 (Nat.le_of_ble_eq_true rfl) (zActs_e (ca := ca) (f := m2 21)) rfl dX0_forgetOldest_28 ?_
  refine z_iconst (pc := 31) hX dX0_forgetOldest_31 ?_
  refine z_aload_n (pc := 32) hX 0 dX0_forgetOldest_32 rfl rfl ?_
  refine z_get (pc := 33) (c := 21) (j := 1) (v := .ref (ad 23)) hX rfl zfl_RX0_13 (Nat.le_of_ble_eq_true rfl) (zActs_e (ca := ca) (f := m2 21)) rfl dX0_forgetOldest_33 ?_
  refine z_iconst (pc := 36) hX dX0_forgetOldest_36 ?_
  refine z_aload_n (pc := 37) hX 0 dX0_forgetOldest_37 rfl rfl ?_
  refine z_get (pc := 38) (c := 21) (j := 3) (v := .int (zI (m2 21 3))) hX rfl zfl_RX0_19 (Nat.le_of_ble_eq_true rfl) (zActs_e (ca := ca) (f := m2 21)) rfl dX0_forgetOldest_38 ?_
  obtain ⟨m3, hm3, g3, h⟩ := zcpy_s h
  refine z_copyi (pc := 41) (c0 := 23) (c1 := 23) hX zCi23 zCi23 zmc_RX0_26 g3 hm3 ⟨by decide, Nat.le_of_ble_eq_true rfl⟩ dX0_forgetOldest_41 ?_
  refine z_aload_n (pc := 44) hX 0 dX0_forgetOldest_44 rfl rfl ?_
  refine z_get (pc := 45) (c := 21) (j := 2) (v := .ref (ad 24)) hX rfl zfl_RX0_16 (Nat.le_of_ble_eq_true rfl) (zActs_e (ca := ca) (f := m3 21)) rfl dX0_forgetOldest_45 ?_
  refine z_iconst (pc := 48) hX dX0_forgetOldest_48 ?_
  refine z_aload_n (pc := 49) hX 0 dX0_forgetOldest_49 rfl rfl ?_
  refine z_get (pc := 50) (c := 21) (j := 2) (v := .ref (ad 24)) hX rfl zfl_RX0_16 (Nat.le_of_ble_eq_true rfl) (zActs_e (ca := ca) (f := m3 21)) rfl dX0_forgetOldest_50 ?_
  refine z_iconst (pc := 53) hX dX0_forgetOldest_53 ?_
  refine z_aload_n (pc := 54) hX 0 dX0_forgetOldest_54 rfl rfl ?_
  refine z_get (pc := 55) (c := 21) (j := 3) (v := .int (zI (m3 21 3))) hX rfl zfl_RX0_19 (Nat.le_of_ble_eq_true rfl) (zActs_e (ca := ca) (f := m3 21)) rfl dX0_forgetOldest_55 ?_
  obtain ⟨m4, hm4, g4, h⟩ := zcpy_s h
  refine z_copyi (pc := 58) (c0 := 24) (c1 := 24) hX zCi24 zCi24 zmc_RX0_26 g4 hm4 ⟨by decide, Nat.le_of_ble_eq_true rfl⟩ dX0_forgetOldest_58 ?_
  exact z_vret (pc := 61) hX rfl rfl (Option.some.inj h) dX0_forgetOldest_61
def rmX0_note : Room := { frames := 2, cells := 0, slots := 0, locals := 46 }
set_option maxRecDepth 20000 in
set_option maxHeartbeats 4000000 in
theorem wX0_note {l : Launch} {D : va_G} {ca : Nat → ClassId} {ad : Nat → Nat} (hG : zGok (zGC D ca ad)) {a1 : Int} {a2 : Int} {a3 : Int} {m0 : zM} {m : zM} (h : FX0_note a1 a2 a3 m = some m0) : zCt l (zGC D ca ad) yX0_note cX0_note 4 none rmX0_note [.ref (ad 21), .int (zI a1), .int (zI a2), .int (zI a3)] m none m0 := by
  unfold FX0_note at h
  refine z_of (plainFor_of_name (by decide +kernel)) hG (Nat.le_of_ble_eq_true rfl) (fun X hX => ?_)
  show zV X 4 m 0 [(0, .ref (ad 21)), (1, .int (zI a1)), (2, .int (zI a2)), (3, .int (zI a3))] []
  refine z_aload_n (pc := 0) hX 0 dX0_note_0 rfl rfl ?_
  refine z_get (pc := 1) (c := 21) (j := 3) (v := .int (zI (m 21 3))) hX rfl zfl_RX0_19 (Nat.le_of_ble_eq_true rfl) (zActs_e (ca := ca) (f := m 21)) rfl dX0_note_1 ?_
  refine z_bipush (pc := 4) hX dX0_note_4 (by decide +kernel) ?_
  obtain ⟨j13, hj13, h⟩ := zjn_s h (fun (j : zM → Option (zM)) => ∀ (mj13 : zM), j mj13 = some m0 → zV X 4 mj13 13 [(0, .ref (ad 21)), (1, .int (zI a1)), (2, .int (zI a2)), (3, .int (zI a3))] []) (fun mj13 h => by
      refine z_aload_n (pc := 13) hX 0 dX0_note_13 rfl rfl ?_
      refine z_get (pc := 14) (c := 21) (j := 0) (v := .ref (ad 22)) hX rfl zfl_RX0_9 (Nat.le_of_ble_eq_true rfl) (zActs_e (ca := ca) (f := mj13 21)) rfl dX0_note_14 ?_
      refine z_aload_n (pc := 17) hX 0 dX0_note_17 rfl rfl ?_
      refine z_get (pc := 18) (c := 21) (j := 3) (v := .int (zI (mj13 21 3))) hX rfl zfl_RX0_19 (Nat.le_of_ble_eq_true rfl) (zActs_e (ca := ca) (f := mj13 21)) rfl dX0_note_18 ?_
      refine z_iload_n (pc := 21) hX 1 dX0_note_21 rfl rfl ?_
      obtain ⟨m1, hm1, hi1, h⟩ := zwr_s h
      refine z_iast (pc := 22) (c := 22) hX zCi22 hi1 hm1 dX0_note_22 ?_
      refine z_aload_n (pc := 23) hX 0 dX0_note_23 rfl rfl ?_
      refine z_get (pc := 24) (c := 21) (j := 1) (v := .ref (ad 23)) hX rfl zfl_RX0_13 (Nat.le_of_ble_eq_true rfl) (zActs_e (ca := ca) (f := m1 21)) rfl dX0_note_24 ?_
      refine z_aload_n (pc := 27) hX 0 dX0_note_27 rfl rfl ?_
      refine z_get (pc := 28) (c := 21) (j := 3) (v := .int (zI (m1 21 3))) hX rfl zfl_RX0_19 (Nat.le_of_ble_eq_true rfl) (zActs_e (ca := ca) (f := m1 21)) rfl dX0_note_28 ?_
      refine z_iload_n (pc := 31) hX 2 dX0_note_31 rfl rfl ?_
      obtain ⟨m2, hm2, hi2, h⟩ := zwr_s h
      refine z_iast (pc := 32) (c := 23) hX zCi23 hi2 hm2 dX0_note_32 ?_
      refine z_aload_n (pc := 33) hX 0 dX0_note_33 rfl rfl ?_
      refine z_get (pc := 34) (c := 21) (j := 2) (v := .ref (ad 24)) hX rfl zfl_RX0_16 (Nat.le_of_ble_eq_true rfl) (zActs_e (ca := ca) (f := m2 21)) rfl dX0_note_34 ?_
      refine z_aload_n (pc := 37) hX 0 dX0_note_37 rfl rfl ?_
      refine z_get (pc := 38) (c := 21) (j := 3) (v := .int (zI (m2 21 3))) hX rfl zfl_RX0_19 (Nat.le_of_ble_eq_true rfl) (zActs_e (ca := ca) (f := m2 21)) rfl dX0_note_38 ?_
      refine z_iload_n (pc := 41) hX 3 dX0_note_41 rfl rfl ?_
      obtain ⟨m3, hm3, hi3, h⟩ := zwr_s h
      refine z_iast (pc := 42) (c := 24) hX zCi24 hi3 hm3 dX0_note_42 ?_
      refine z_aload_n (pc := 43) hX 0 dX0_note_43 rfl rfl ?_
      refine z_dup (pc := 44) hX dX0_note_44 rfl ?_
      refine z_get (pc := 45) (c := 21) (j := 3) (v := .int (zI (m3 21 3))) hX rfl zfl_RX0_19 (Nat.le_of_ble_eq_true rfl) (zActs_e (ca := ca) (f := m3 21)) rfl dX0_note_45 ?_
      refine z_iconst (pc := 48) hX dX0_note_48 ?_
      refine z_iadd (pc := 49) hX dX0_note_49 ?_
      obtain ⟨m4, hm4, h⟩ := zpf_s h
      refine z_put (pc := 50) (c := 21) (j := 3) hX rfl zfl_RX0_19 zfi_0_3 (Nat.le_of_ble_eq_true rfl) (zActs_e (ca := ca) (f := m3 21)) (Nat.le_of_ble_eq_true rfl) (zActs_p3 (ca := ca)) hm4 dX0_note_50 ?_
      exact z_vret (pc := 53) hX rfl rfl (Option.some.inj h) dX0_note_53
      )
  refine z_icmp_ne (pc := 6) (tgt := 13) hX dX0_note_6 (by decide) (fun hc6 => ?_) (fun hc6 => ?_)
  · replace h := (if_neg hc6).symm.trans h
    exact hj13 _ h
  · replace h := (if_pos hc6).symm.trans h
    refine z_aload_n (pc := 9) hX 0 dX0_note_9 rfl rfl ?_
    obtain ⟨m5, hr5, h⟩ := zcl_s h
    refine z_callVv (pc := 10) (v := .null) (c := 21) hX [] [] (wX0_forgetOldest (ca := ca) hG  hr5) rfl zmv_RX0_23 (Nat.le_of_ble_eq_true rfl) (zActs_e (ca := ca) (f := m 21)) rfl rfl ⟨rfl, rfl⟩ ⟨by decide, by decide⟩ (Nat.le_of_ble_eq_true rfl) dX0_note_10 ?_
    exact hj13 _ h
def rmX1_edge : Room := { frames := 0, cells := 0, slots := 0, locals := 0 }
set_option maxRecDepth 20000 in
set_option maxHeartbeats 4000000 in
theorem wX1_edge {l : Launch} {D : va_G} {ca : Nat → ClassId} {ad : Nat → Nat} (hG : zGok (zGC D ca ad)) {a0 : Int} {a1 : Int} {r0 : Int} {m : zM} (h : FX1_edge a0 a1 = some r0) : zCt l (zGC D ca ad) yX1_edge cX1_edge 2 (some .int) rmX1_edge [.int (zI a0), .int (zI a1)] m (some (.int (zI r0))) m := by
  unfold FX1_edge at h
  refine z_of (plainFor_of_name (by decide +kernel)) hG (Nat.le_of_ble_eq_true rfl) (fun X hX => ?_)
  show zV X 2 m 0 [(0, .int (zI a0)), (1, .int (zI a1))] []
  refine z_iload_n (pc := 0) hX 0 dX1_edge_0 rfl rfl ?_
  refine z_bipush (pc := 1) hX dX1_edge_1 (by decide +kernel) ?_
  refine z_imul (pc := 3) hX dX1_edge_3 ?_
  refine z_iload_n (pc := 4) hX 1 dX1_edge_4 rfl rfl ?_
  refine z_iadd (pc := 5) hX dX1_edge_5 ?_
  refine z_bipush (pc := 6) hX dX1_edge_6 (by decide +kernel) ?_
  refine z_isub (pc := 8) hX dX1_edge_8 ?_
  exact z_iret (pc := 9) hX rfl rfl (Option.some.inj h) rfl dX1_edge_9
def rmX1_removeLast : Room := { frames := 1, cells := 0, slots := 0, locals := 21 }
set_option maxRecDepth 20000 in
set_option maxHeartbeats 4000000 in
theorem wX1_removeLast {l : Launch} {D : va_G} {ca : Nat → ClassId} {ad : Nat → Nat} (hG : zGok (zGC D ca ad)) {o : Nat} (ho : zCat o) {m0 : zM} {m : zM} (h : FX1_removeLast o m = some m0) : zCt l (zGC D ca ad) yX1_removeLast cX1_removeLast 2 none rmX1_removeLast [.ref (ad o)] m none m0 := by
  unfold FX1_removeLast at h
  refine z_of (plainFor_of_name (by decide +kernel)) hG (Nat.le_of_ble_eq_true rfl) (fun X hX => ?_)
  show zV X 2 m 0 [(0, .ref (ad o))] []
  refine z_aload_n (pc := 0) hX 0 dX1_removeLast_0 rfl rfl ?_
  refine z_dup (pc := 1) hX dX1_removeLast_1 rfl ?_
  refine z_get (pc := 2) (c := o) (j := 9) (v := .int (zI (m o 9))) hX rfl zfl_RX1_45 (zCat_lt ho) (zCat_e (ca := ca) (f := m o) ho) rfl dX1_removeLast_2 ?_
  refine z_iconst (pc := 5) hX dX1_removeLast_5 ?_
  refine z_isub (pc := 6) hX dX1_removeLast_6 ?_
  obtain ⟨m1, hm1, h⟩ := zpf_s h
  refine z_put (pc := 7) (c := o) (j := 9) hX rfl zfl_RX1_45 zfi_1_9 (zCat_lt ho) (zCat_e (ca := ca) (f := m o) ho) (Nat.le_of_ble_eq_true rfl) (zCat_p9 (ca := ca) ho) hm1 dX1_removeLast_7 ?_
  refine z_aload_n (pc := 10) hX 0 dX1_removeLast_10 rfl rfl ?_
  refine z_get (pc := 11) (c := o) (j := 1) (v := .ref (ad (o + 2))) hX rfl zfl_RX1_15 (zCat_lt ho) (zCat_e (ca := ca) (f := m1 o) ho) rfl dX1_removeLast_11 ?_
  refine z_aload_n (pc := 14) hX 0 dX1_removeLast_14 rfl rfl ?_
  refine z_get (pc := 15) (c := o) (j := 9) (v := .int (zI (m1 o 9))) hX rfl zfl_RX1_45 (zCat_lt ho) (zCat_e (ca := ca) (f := m1 o) ho) rfl dX1_removeLast_15 ?_
  obtain ⟨x2, hx2, hi2, h⟩ := zrd_s h
  refine z_iald (pc := 18) (c := (o + 2)) hX (zCat_a2 ho) hi2 hx2 dX1_removeLast_18 ?_
  refine z_istore_n (pc := 19) (lv' := [(1, .int (zI x2)), (0, .ref (ad o))]) hX dX1_removeLast_19 rfl (by decide) rfl ?_
  refine z_aload_n (pc := 20) hX 1 dX1_removeLast_20 rfl rfl ?_
  refine z_get (pc := 21) (c := o) (j := 6) (v := .ref (ad (o + 7))) hX rfl zfl_RX1_30 (zCat_lt ho) (zCat_e (ca := ca) (f := m1 o) ho) rfl dX1_removeLast_21 ?_
  refine z_iload_n (pc := 24) hX 0 dX1_removeLast_24 rfl rfl ?_
  obtain ⟨x3, hx3, hi3, h⟩ := zrd_s h
  refine z_iald (pc := 25) (c := (o + 7)) hX (zCat_a7 ho) hi3 hx3 dX1_removeLast_25 ?_
  refine z_aload_n (pc := 26) hX 1 dX1_removeLast_26 rfl rfl ?_
  refine z_get (pc := 27) (c := o) (j := 9) (v := .int (zI (m1 o 9))) hX rfl zfl_RX1_45 (zCat_lt ho) (zCat_e (ca := ca) (f := m1 o) ho) rfl dX1_removeLast_27 ?_
  refine z_icmp_ne (pc := 30) (tgt := 67) hX dX1_removeLast_30 (by decide) (fun hc9 => ?_) (fun hc9 => ?_)
  · replace h := (if_neg hc9).symm.trans h
    exact z_vret (pc := 67) hX rfl rfl (Option.some.inj h) dX1_removeLast_67
  · replace h := (if_pos hc9).symm.trans h
    refine z_aload_n (pc := 33) hX 1 dX1_removeLast_33 rfl rfl ?_
    refine z_get (pc := 34) (c := o) (j := 8) (v := .ref (ad (o + 9))) hX rfl zfl_RX1_36 (zCat_lt ho) (zCat_e (ca := ca) (f := m1 o) ho) rfl dX1_removeLast_34 ?_
    refine z_aload_n (pc := 37) hX 1 dX1_removeLast_37 rfl rfl ?_
    refine z_get (pc := 38) (c := o) (j := 5) (v := .ref (ad (o + 6))) hX rfl zfl_RX1_27 (zCat_lt ho) (zCat_e (ca := ca) (f := m1 o) ho) rfl dX1_removeLast_38 ?_
    refine z_iload_n (pc := 41) hX 0 dX1_removeLast_41 rfl rfl ?_
    obtain ⟨x4, hx4, hi4, h⟩ := zrd_s h
    refine z_iald (pc := 42) (c := (o + 6)) hX (zCat_a6 ho) hi4 hx4 dX1_removeLast_42 ?_
    refine z_aload_n (pc := 43) hX 1 dX1_removeLast_43 rfl rfl ?_
    refine z_get (pc := 44) (c := o) (j := 0) (v := .ref (ad (o + 1))) hX rfl zfl_RX1_9 (zCat_lt ho) (zCat_e (ca := ca) (f := m1 o) ho) rfl dX1_removeLast_44 ?_
    refine z_aload_n (pc := 47) hX 1 dX1_removeLast_47 rfl rfl ?_
    refine z_get (pc := 48) (c := o) (j := 9) (v := .int (zI (m1 o 9))) hX rfl zfl_RX1_45 (zCat_lt ho) (zCat_e (ca := ca) (f := m1 o) ho) rfl dX1_removeLast_48 ?_
    obtain ⟨x5, hx5, hi5, h⟩ := zrd_s h
    refine z_iald (pc := 51) (c := (o + 1)) hX (zCat_a1 ho) hi5 hx5 dX1_removeLast_51 ?_
    obtain ⟨r6, hr6, h⟩ := zcl_s h
    refine z_callSr (pc := 52) hX [.int (zI x4), .int (zI x5)] [.ref (ad (o + 9))] (wX1_edge (ca := ca) hG  hr6) zms_RX1_53 rfl rfl ⟨rfl, rfl⟩ ⟨by decide, by decide⟩ (Nat.le_of_ble_eq_true rfl) dX1_removeLast_52 ?_
    refine z_iconst (pc := 55) hX dX1_removeLast_55 ?_
    obtain ⟨m7, hm7, hi7, h⟩ := zwr_s h
    refine z_iast (pc := 56) (c := (o + 9)) hX (zCat_a9 ho) hi7 hm7 dX1_removeLast_56 ?_
    refine z_aload_n (pc := 57) hX 1 dX1_removeLast_57 rfl rfl ?_
    refine z_dup (pc := 58) hX dX1_removeLast_58 rfl ?_
    refine z_get (pc := 59) (c := o) (j := 10) (v := .int (zI (m7 o 10))) hX rfl zfl_RX1_59 (zCat_lt ho) (zCat_e (ca := ca) (f := m7 o) ho) rfl dX1_removeLast_59 ?_
    refine z_iconst (pc := 62) hX dX1_removeLast_62 ?_
    refine z_isub (pc := 63) hX dX1_removeLast_63 ?_
    obtain ⟨m8, hm8, h⟩ := zpf_s h
    refine z_put (pc := 64) (c := o) (j := 10) hX rfl zfl_RX1_59 zfi_1_10 (zCat_lt ho) (zCat_e (ca := ca) (f := m7 o) ho) (Nat.le_of_ble_eq_true rfl) (zCat_p10 (ca := ca) ho) hm8 dX1_removeLast_64 ?_
    exact z_vret (pc := 67) hX rfl rfl (Option.some.inj h) dX1_removeLast_67
def rmX1_longestBehind : Room := { frames := 0, cells := 0, slots := 0, locals := 0 }
set_option maxRecDepth 20000 in
set_option maxHeartbeats 4000000 in
theorem wX1_longestBehind_L5 {X : zXT} {l : Launch} {D : va_G} {ca : Nat → ClassId} {ad : Nat → Nat} (hG : zGok (zGC D ca ad)) {o : Nat} (ho : zCat o) {a1 : Int} {a2 : Int}  {r0 : Int} {m : zM}  (hX : zC X l rmX1_longestBehind (zGC D ca ad) (some (.int (zI r0))) m cX1_longestBehind 6 RX1 (some .int)) {k : Int → Int → Option (Int)} (hk : ∀ (v3 : Int) (v4 : Int), k v3 v4 = some r0 → zV X 6 m 58 [(0, .ref (ad o)), (2, .int (zI a2)), (3, .int (zI v3)), (4, .int (zI v4))] []) : ∀ (n : Nat) (v3 : Int) (v4 : Int), FX1_longestBehind_L5 o a1 a2 m k n v3 v4 = some r0 → zV X 6 m 5 [(0, .ref (ad o)), (2, .int (zI a2)), (3, .int (zI v3)), (4, .int (zI v4))] [] := by
  intro n
  induction n with
  | zero => intro v3 v4 h; cases h
  | succ n ih =>
    intro v3 v4 h
    replace h : FX1_longestBehind_L5_B o a1 a2 m k (FX1_longestBehind_L5 o a1 a2 m k n) v3 v4 = some r0 := h
    unfold FX1_longestBehind_L5_B at h
    refine z_iload (pc := 5) hX 3 dX1_longestBehind_5 rfl ?_
    refine z_bipush (pc := 7) hX dX1_longestBehind_7 (by decide +kernel) ?_
    refine z_icmp_ge (pc := 9) (tgt := 58) hX dX1_longestBehind_9 (by decide) (fun hc7 => ?_) (fun hc7 => ?_)
    · replace h := (if_neg hc7).symm.trans h
      exact hk _ _ h
    · replace h := (if_pos hc7).symm.trans h
      refine z_aload_n (pc := 12) hX 0 dX1_longestBehind_12 rfl rfl ?_
      refine z_get (pc := 13) (c := o) (j := 9) (v := .int (zI (m o 9))) hX rfl zfl_RX1_45 (zCat_lt ho) (zCat_e (ca := ca) (f := m o) ho) rfl dX1_longestBehind_13 ?_
      refine z_iconst (pc := 16) hX dX1_longestBehind_16 ?_
      refine z_isub (pc := 17) hX dX1_longestBehind_17 ?_
      refine z_aload_n (pc := 18) hX 0 dX1_longestBehind_18 rfl rfl ?_
      refine z_get (pc := 19) (c := o) (j := 2) (v := .ref (ad (o + 3))) hX rfl zfl_RX1_18 (zCat_lt ho) (zCat_e (ca := ca) (f := m o) ho) rfl dX1_longestBehind_19 ?_
      refine z_iload_n (pc := 22) hX 2 dX1_longestBehind_22 rfl rfl ?_
      obtain ⟨x1, hx1, hi1, h⟩ := zrd_s h
      refine z_iald (pc := 23) (c := (o + 3)) hX (zCat_a3 ho) hi1 hx1 dX1_longestBehind_23 ?_
      refine z_isub (pc := 24) hX dX1_longestBehind_24 ?_
      refine z_istore (pc := 25) (lv' := [(5, .int (zI (((m o 9) - 1) - x1))), (0, .ref (ad o)), (2, .int (zI a2)), (3, .int (zI v3)), (4, .int (zI v4))]) hX dX1_longestBehind_25 (by decide) rfl ?_
      refine z_iload (pc := 27) hX 0 dX1_longestBehind_27 rfl ?_
      refine z_if_lt (pc := 29) (tgt := 45) hX dX1_longestBehind_29 (by decide) (fun hc6 => ?_) (fun hc6 => ?_)
      · replace h := (if_pos hc6).symm.trans h
        refine z_aload_n (pc := 45) hX 1 dX1_longestBehind_45 rfl rfl ?_
        refine z_get (pc := 46) (c := o) (j := 3) (v := .ref (ad (o + 4))) hX rfl zfl_RX1_21 (zCat_lt ho) (zCat_e (ca := ca) (f := m o) ho) rfl dX1_longestBehind_46 ?_
        refine z_iload_n (pc := 49) hX 3 dX1_longestBehind_49 rfl rfl ?_
        obtain ⟨x2, hx2, hi2, h⟩ := zrd_s h
        refine z_iald (pc := 50) (c := (o + 4)) hX (zCat_a4 ho) hi2 hx2 dX1_longestBehind_50 ?_
        refine z_istore_n (pc := 51) (lv' := [(3, .int (zI x2)), (5, .int (zI (((m o 9) - 1) - x1))), (0, .ref (ad o)), (2, .int (zI a2)), (4, .int (zI v4))]) hX dX1_longestBehind_51 rfl (by decide) rfl ?_
        refine z_iinc (pc := 52) (lv' := [(4, .int (zI (v4 + 1))), (3, .int (zI x2)), (5, .int (zI (((m o 9) - 1) - x1))), (0, .ref (ad o)), (2, .int (zI a2))]) hX 4 dX1_longestBehind_52 rfl (by decide) rfl ?_
        refine z_goto (pc := 55) (tgt := 5) hX dX1_longestBehind_55 (by decide) ?_
        refine z_sub [3, 4, 1, 0] rfl ?_
        exact ih _ _ h
      · replace h := (if_neg hc6).symm.trans h
        refine z_aload_n (pc := 32) hX 1 dX1_longestBehind_32 rfl rfl ?_
        refine z_get (pc := 33) (c := o) (j := 0) (v := .ref (ad (o + 1))) hX rfl zfl_RX1_9 (zCat_lt ho) (zCat_e (ca := ca) (f := m o) ho) rfl dX1_longestBehind_33 ?_
        refine z_iload (pc := 36) hX 0 dX1_longestBehind_36 rfl ?_
        obtain ⟨x3, hx3, hi3, h⟩ := zrd_s h
        refine z_iald (pc := 38) (c := (o + 1)) hX (zCat_a1 ho) hi3 hx3 dX1_longestBehind_38 ?_
        refine z_iload_n (pc := 39) hX 2 dX1_longestBehind_39 rfl rfl ?_
        refine z_icmp_ne (pc := 40) (tgt := 45) hX dX1_longestBehind_40 (by decide) (fun hc5 => ?_) (fun hc5 => ?_)
        · replace h := (if_neg hc5).symm.trans h
          refine z_aload_n (pc := 45) hX 1 dX1_longestBehind_45 rfl rfl ?_
          refine z_get (pc := 46) (c := o) (j := 3) (v := .ref (ad (o + 4))) hX rfl zfl_RX1_21 (zCat_lt ho) (zCat_e (ca := ca) (f := m o) ho) rfl dX1_longestBehind_46 ?_
          refine z_iload_n (pc := 49) hX 3 dX1_longestBehind_49 rfl rfl ?_
          obtain ⟨x4, hx4, hi4, h⟩ := zrd_s h
          refine z_iald (pc := 50) (c := (o + 4)) hX (zCat_a4 ho) hi4 hx4 dX1_longestBehind_50 ?_
          refine z_istore_n (pc := 51) (lv' := [(3, .int (zI x4)), (5, .int (zI (((m o 9) - 1) - x1))), (0, .ref (ad o)), (2, .int (zI a2)), (4, .int (zI v4))]) hX dX1_longestBehind_51 rfl (by decide) rfl ?_
          refine z_iinc (pc := 52) (lv' := [(4, .int (zI (v4 + 1))), (3, .int (zI x4)), (5, .int (zI (((m o 9) - 1) - x1))), (0, .ref (ad o)), (2, .int (zI a2))]) hX 4 dX1_longestBehind_52 rfl (by decide) rfl ?_
          refine z_goto (pc := 55) (tgt := 5) hX dX1_longestBehind_55 (by decide) ?_
          refine z_sub [3, 4, 1, 0] rfl ?_
          exact ih _ _ h
        · replace h := (if_pos hc5).symm.trans h
          refine z_iload_n (pc := 43) hX 3 dX1_longestBehind_43 rfl rfl ?_
          exact z_iret (pc := 44) hX rfl rfl (Option.some.inj h) rfl dX1_longestBehind_44
set_option maxRecDepth 20000 in
set_option maxHeartbeats 4000000 in
theorem wX1_longestBehind {l : Launch} {D : va_G} {ca : Nat → ClassId} {ad : Nat → Nat} (hG : zGok (zGC D ca ad)) {o : Nat} (ho : zCat o) {a1 : Int} {a2 : Int} {r0 : Int} {m : zM} (h : FX1_longestBehind o a1 a2 m = some r0) : zCt l (zGC D ca ad) yX1_longestBehind cX1_longestBehind 6 (some .int) rmX1_longestBehind [.ref (ad o), .int (zI a1), .int (zI a2)] m (some (.int (zI r0))) m := by
  unfold FX1_longestBehind at h
  refine z_of (plainFor_of_name (by decide +kernel)) hG (Nat.le_of_ble_eq_true rfl) (fun X hX => ?_)
  show zV X 6 m 0 [(0, .ref (ad o)), (1, .int (zI a1)), (2, .int (zI a2))] []
  refine z_iload_n (pc := 0) hX 1 dX1_longestBehind_0 rfl rfl ?_
  refine z_istore_n (pc := 1) (lv' := [(3, .int (zI a1)), (0, .ref (ad o)), (1, .int (zI a1)), (2, .int (zI a2))]) hX dX1_longestBehind_1 rfl (by decide) rfl ?_
  refine z_iconst (pc := 2) hX dX1_longestBehind_2 ?_
  refine z_istore (pc := 3) (lv' := [(4, .int (zI 0)), (3, .int (zI a1)), (0, .ref (ad o)), (1, .int (zI a1)), (2, .int (zI a2))]) hX dX1_longestBehind_3 (by decide) rfl ?_
  refine z_sub [2, 4, 1, 0] rfl ?_
  refine wX1_longestBehind_L5 hG ho hX (fun y5_3 y5_4 h => ?_) _ _ _ h
  refine z_bipush (pc := 58) hX dX1_longestBehind_58 (by decide +kernel) ?_
  exact z_iret (pc := 60) hX rfl rfl (Option.some.inj h) rfl dX1_longestBehind_60
def rmX1_less : Room := { frames := 0, cells := 0, slots := 0, locals := 0 }
set_option maxRecDepth 20000 in
set_option maxHeartbeats 4000000 in
theorem wX1_less {l : Launch} {D : va_G} {ca : Nat → ClassId} {ad : Nat → Nat} (hG : zGok (zGC D ca ad)) {o : Nat} (ho : zCat o) {a1 : Int} {r0 : Int} {m : zM} (h : FX1_less o a1 m = some r0) : zCt l (zGC D ca ad) yX1_less cX1_less 2 (some .int) rmX1_less [.ref (ad o), .int (zI a1)] m (some (.int (zI r0))) m := by
  unfold FX1_less at h
  refine z_of (plainFor_of_name (by decide +kernel)) hG (Nat.le_of_ble_eq_true rfl) (fun X hX => ?_)
  show zV X 2 m 0 [(0, .ref (ad o)), (1, .int (zI a1))] []
  refine z_aload_n (pc := 0) hX 0 dX1_less_0 rfl rfl ?_
  refine z_get (pc := 1) (c := o) (j := 2) (v := .ref (ad (o + 3))) hX rfl zfl_RX1_18 (zCat_lt ho) (zCat_e (ca := ca) (f := m o) ho) rfl dX1_less_1 ?_
  refine z_iload_n (pc := 4) hX 1 dX1_less_4 rfl rfl ?_
  obtain ⟨x1, hx1, hi1, h⟩ := zrd_s h
  refine z_iald (pc := 5) (c := (o + 3)) hX (zCat_a3 ho) hi1 hx1 dX1_less_5 ?_
  refine z_aload_n (pc := 6) hX 0 dX1_less_6 rfl rfl ?_
  refine z_get (pc := 7) (c := o) (j := 2) (v := .ref (ad (o + 3))) hX rfl zfl_RX1_18 (zCat_lt ho) (zCat_e (ca := ca) (f := m o) ho) rfl dX1_less_7 ?_
  refine z_aload_n (pc := 10) hX 0 dX1_less_10 rfl rfl ?_
  refine z_get (pc := 11) (c := o) (j := 3) (v := .ref (ad (o + 4))) hX rfl zfl_RX1_21 (zCat_lt ho) (zCat_e (ca := ca) (f := m o) ho) rfl dX1_less_11 ?_
  refine z_iload_n (pc := 14) hX 1 dX1_less_14 rfl rfl ?_
  obtain ⟨x2, hx2, hi2, h⟩ := zrd_s h
  refine z_iald (pc := 15) (c := (o + 4)) hX (zCat_a4 ho) hi2 hx2 dX1_less_15 ?_
  obtain ⟨x3, hx3, hi3, h⟩ := zrd_s h
  refine z_iald (pc := 16) (c := (o + 3)) hX (zCat_a3 ho) hi3 hx3 dX1_less_16 ?_
  refine z_isub (pc := 17) hX dX1_less_17 ?_
  exact z_iret (pc := 18) hX rfl rfl (Option.some.inj h) rfl dX1_less_18
def rmX1_create : Room := { frames := 1, cells := 0, slots := 0, locals := 25 }
set_option maxRecDepth 20000 in
set_option maxHeartbeats 4000000 in
theorem wX1_create {l : Launch} {D : va_G} {ca : Nat → ClassId} {ad : Nat → Nat} (hG : zGok (zGC D ca ad)) {o : Nat} (ho : zCat o) {a1 : Int} {a2 : Int} {r0 : Int} {m0 : zM} {m : zM} (h : FX1_create o a1 a2 m = some (r0, m0)) : zCt l (zGC D ca ad) yX1_create cX1_create 5 (some .int) rmX1_create [.ref (ad o), .int (zI a1), .int (zI a2)] m (some (.int (zI r0))) m0 := by
  unfold FX1_create at h
  refine z_of (plainFor_of_name (by decide +kernel)) hG (Nat.le_of_ble_eq_true rfl) (fun X hX => ?_)
  show zV X 5 m 0 [(0, .ref (ad o)), (1, .int (zI a1)), (2, .int (zI a2))] []
  refine z_aload_n (pc := 0) hX 0 dX1_create_0 rfl rfl ?_
  refine z_get (pc := 1) (c := o) (j := 10) (v := .int (zI (m o 10))) hX rfl zfl_RX1_59 (zCat_lt ho) (zCat_e (ca := ca) (f := m o) ho) rfl dX1_create_1 ?_
  refine z_istore_n (pc := 4) (lv' := [(3, .int (zI (m o 10))), (0, .ref (ad o)), (1, .int (zI a1)), (2, .int (zI a2))]) hX dX1_create_4 rfl (by decide) rfl ?_
  refine z_aload_n (pc := 5) hX 1 dX1_create_5 rfl rfl ?_
  refine z_get (pc := 6) (c := o) (j := 2) (v := .ref (ad (o + 3))) hX rfl zfl_RX1_18 (zCat_lt ho) (zCat_e (ca := ca) (f := m o) ho) rfl dX1_create_6 ?_
  refine z_iload_n (pc := 9) hX 0 dX1_create_9 rfl rfl ?_
  refine z_aload_n (pc := 10) hX 1 dX1_create_10 rfl rfl ?_
  refine z_get (pc := 11) (c := o) (j := 2) (v := .ref (ad (o + 3))) hX rfl zfl_RX1_18 (zCat_lt ho) (zCat_e (ca := ca) (f := m o) ho) rfl dX1_create_11 ?_
  refine z_iload_n (pc := 14) hX 2 dX1_create_14 rfl rfl ?_
  obtain ⟨x1, hx1, hi1, h⟩ := zrd_s h
  refine z_iald (pc := 15) (c := (o + 3)) hX (zCat_a3 ho) hi1 hx1 dX1_create_15 ?_
  refine z_iconst (pc := 16) hX dX1_create_16 ?_
  refine z_iadd (pc := 17) hX dX1_create_17 ?_
  obtain ⟨m2, hm2, hi2, h⟩ := zwr_s h
  refine z_iast (pc := 18) (c := (o + 3)) hX (zCat_a3 ho) hi2 hm2 dX1_create_18 ?_
  refine z_aload_n (pc := 19) hX 1 dX1_create_19 rfl rfl ?_
  refine z_get (pc := 20) (c := o) (j := 5) (v := .ref (ad (o + 6))) hX rfl zfl_RX1_27 (zCat_lt ho) (zCat_e (ca := ca) (f := m2 o) ho) rfl dX1_create_20 ?_
  refine z_iload_n (pc := 23) hX 0 dX1_create_23 rfl rfl ?_
  refine z_iload_n (pc := 24) hX 2 dX1_create_24 rfl rfl ?_
  obtain ⟨m3, hm3, hi3, h⟩ := zwr_s h
  refine z_iast (pc := 25) (c := (o + 6)) hX (zCat_a6 ho) hi3 hm3 dX1_create_25 ?_
  refine z_aload_n (pc := 26) hX 1 dX1_create_26 rfl rfl ?_
  refine z_get (pc := 27) (c := o) (j := 6) (v := .ref (ad (o + 7))) hX rfl zfl_RX1_30 (zCat_lt ho) (zCat_e (ca := ca) (f := m3 o) ho) rfl dX1_create_27 ?_
  refine z_iload_n (pc := 30) hX 0 dX1_create_30 rfl rfl ?_
  refine z_aload_n (pc := 31) hX 1 dX1_create_31 rfl rfl ?_
  refine z_get (pc := 32) (c := o) (j := 9) (v := .int (zI (m3 o 9))) hX rfl zfl_RX1_45 (zCat_lt ho) (zCat_e (ca := ca) (f := m3 o) ho) rfl dX1_create_32 ?_
  obtain ⟨m4, hm4, hi4, h⟩ := zwr_s h
  refine z_iast (pc := 35) (c := (o + 7)) hX (zCat_a7 ho) hi4 hm4 dX1_create_35 ?_
  refine z_iload_n (pc := 36) hX 2 dX1_create_36 rfl rfl ?_
  refine z_bipush (pc := 37) hX dX1_create_37 (by decide +kernel) ?_
  obtain ⟨j67, hj67, h⟩ := zjn_s h (fun (j : Int → Option (Int × zM)) => ∀ (s67_0 : Int), j s67_0 = some (r0, m0) → zV X 5 m4 67 [(0, .ref (ad o)), (1, .int (zI a1)), (2, .int (zI a2)), (3, .int (zI (m o 10)))] [.int (zI s67_0)]) (fun s67_0 h => by
      refine z_istore (pc := 67) (lv' := [(4, .int (zI s67_0)), (0, .ref (ad o)), (1, .int (zI a1)), (2, .int (zI a2)), (3, .int (zI (m o 10)))]) hX dX1_create_67 (by decide) rfl ?_
      refine z_aload_n (pc := 69) hX 1 dX1_create_69 rfl rfl ?_
      refine z_get (pc := 70) (c := o) (j := 3) (v := .ref (ad (o + 4))) hX rfl zfl_RX1_21 (zCat_lt ho) (zCat_e (ca := ca) (f := m4 o) ho) rfl dX1_create_70 ?_
      refine z_iload_n (pc := 73) hX 4 dX1_create_73 rfl rfl ?_
      refine z_iload (pc := 74) hX 0 dX1_create_74 rfl ?_
      obtain ⟨m5, hm5, hi5, h⟩ := zwr_s h
      refine z_iast (pc := 76) (c := (o + 4)) hX (zCat_a4 ho) hi5 hm5 dX1_create_76 ?_
      refine z_aload_n (pc := 77) hX 1 dX1_create_77 rfl rfl ?_
      refine z_get (pc := 78) (c := o) (j := 7) (v := .ref (ad (o + 8))) hX rfl zfl_RX1_33 (zCat_lt ho) (zCat_e (ca := ca) (f := m5 o) ho) rfl dX1_create_78 ?_
      refine z_iload_n (pc := 81) hX 4 dX1_create_81 rfl rfl ?_
      refine z_aload_n (pc := 82) hX 1 dX1_create_82 rfl rfl ?_
      refine z_get (pc := 83) (c := o) (j := 7) (v := .ref (ad (o + 8))) hX rfl zfl_RX1_33 (zCat_lt ho) (zCat_e (ca := ca) (f := m5 o) ho) rfl dX1_create_83 ?_
      refine z_iload (pc := 86) hX 0 dX1_create_86 rfl ?_
      obtain ⟨x6, hx6, hi6, h⟩ := zrd_s h
      refine z_iald (pc := 88) (c := (o + 8)) hX (zCat_a8 ho) hi6 hx6 dX1_create_88 ?_
      refine z_iconst (pc := 89) hX dX1_create_89 ?_
      refine z_iadd (pc := 90) hX dX1_create_90 ?_
      obtain ⟨m7, hm7, hi7, h⟩ := zwr_s h
      refine z_iast (pc := 91) (c := (o + 8)) hX (zCat_a8 ho) hi7 hm7 dX1_create_91 ?_
      refine z_aload_n (pc := 92) hX 1 dX1_create_92 rfl rfl ?_
      refine z_get (pc := 93) (c := o) (j := 4) (v := .ref (ad (o + 5))) hX rfl zfl_RX1_24 (zCat_lt ho) (zCat_e (ca := ca) (f := m7 o) ho) rfl dX1_create_93 ?_
      refine z_iload_n (pc := 96) hX 4 dX1_create_96 rfl rfl ?_
      refine z_aload_n (pc := 97) hX 1 dX1_create_97 rfl rfl ?_
      refine z_iload_n (pc := 98) hX 4 dX1_create_98 rfl rfl ?_
      obtain ⟨r8, hr8, h⟩ := zcl_s h
      refine z_callVr (pc := 99) (c := o) hX [.int (zI (m o 10))] [.int (zI (m o 10)), .ref (ad (o + 5))] (wX1_less (ca := ca) hG ho hr8) rfl zmv_RX1_62 (zCat_lt ho) (zCat_e (ca := ca) (f := m7 o) ho) rfl rfl ⟨rfl, rfl⟩ ⟨by decide, by decide⟩ (Nat.le_of_ble_eq_true rfl) dX1_create_99 ?_
      refine z_aload_n (pc := 102) hX 1 dX1_create_102 rfl rfl ?_
      refine z_iload (pc := 103) hX 0 dX1_create_103 rfl ?_
      obtain ⟨r9, hr9, h⟩ := zcl_s h
      refine z_callVr (pc := 105) (c := o) hX [.int (zI s67_0)] [.int (zI r8), .int (zI (m o 10)), .ref (ad (o + 5))] (wX1_less (ca := ca) hG ho hr9) rfl zmv_RX1_62 (zCat_lt ho) (zCat_e (ca := ca) (f := m7 o) ho) rfl rfl ⟨rfl, rfl⟩ ⟨by decide, by decide⟩ (Nat.le_of_ble_eq_true rfl) dX1_create_105 ?_
      obtain ⟨j123, hj123, h⟩ := zjn_s h (fun (j : Int → Option (Int × zM)) => ∀ (s123_0 : Int), j s123_0 = some (r0, m0) → zV X 5 m7 123 [(0, .ref (ad o)), (1, .int (zI a1)), (2, .int (zI a2)), (3, .int (zI (m o 10)))] [.int (zI s123_0), .int (zI (m o 10)), .ref (ad (o + 5))]) (fun s123_0 h => by
          obtain ⟨m10, hm10, hi10, h⟩ := zwr_s h
          refine z_iast (pc := 123) (c := (o + 5)) hX (zCat_a5 ho) hi10 hm10 dX1_create_123 ?_
          refine z_aload_n (pc := 124) hX 0 dX1_create_124 rfl rfl ?_
          refine z_get (pc := 125) (c := o) (j := 8) (v := .ref (ad (o + 9))) hX rfl zfl_RX1_36 (zCat_lt ho) (zCat_e (ca := ca) (f := m10 o) ho) rfl dX1_create_125 ?_
          refine z_iload_n (pc := 128) hX 1 dX1_create_128 rfl rfl ?_
          refine z_iload_n (pc := 129) hX 2 dX1_create_129 rfl rfl ?_
          obtain ⟨r11, hr11, h⟩ := zcl_s h
          refine z_callSr (pc := 130) hX [.int (zI a1), .int (zI a2)] [.ref (ad (o + 9))] (wX1_edge (ca := ca) hG  hr11) zms_RX1_53 rfl rfl ⟨rfl, rfl⟩ ⟨by decide, by decide⟩ (Nat.le_of_ble_eq_true rfl) dX1_create_130 ?_
          refine z_iload_n (pc := 133) hX 3 dX1_create_133 rfl rfl ?_
          obtain ⟨m12, hm12, hi12, h⟩ := zwr_s h
          refine z_iast (pc := 134) (c := (o + 9)) hX (zCat_a9 ho) hi12 hm12 dX1_create_134 ?_
          refine z_aload_n (pc := 135) hX 0 dX1_create_135 rfl rfl ?_
          refine z_dup (pc := 136) hX dX1_create_136 rfl ?_
          refine z_get (pc := 137) (c := o) (j := 10) (v := .int (zI (m12 o 10))) hX rfl zfl_RX1_59 (zCat_lt ho) (zCat_e (ca := ca) (f := m12 o) ho) rfl dX1_create_137 ?_
          refine z_iconst (pc := 140) hX dX1_create_140 ?_
          refine z_iadd (pc := 141) hX dX1_create_141 ?_
          obtain ⟨m13, hm13, h⟩ := zpf_s h
          refine z_put (pc := 142) (c := o) (j := 10) hX rfl zfl_RX1_59 zfi_1_10 (zCat_lt ho) (zCat_e (ca := ca) (f := m12 o) ho) (Nat.le_of_ble_eq_true rfl) (zCat_p10 (ca := ca) ho) hm13 dX1_create_142 ?_
          refine z_iload_n (pc := 145) hX 3 dX1_create_145 rfl rfl ?_
          exact z_iret (pc := 146) hX rfl rfl (Prod.mk.inj (Option.some.inj h)).1 (Prod.mk.inj (Option.some.inj h)).2 dX1_create_146
          )
      refine z_icmp_ne (pc := 108) (tgt := 121) hX dX1_create_108 (by decide) (fun hc15 => ?_) (fun hc15 => ?_)
      · replace h := (if_neg hc15).symm.trans h
        refine z_iload (pc := 121) hX 0 dX1_create_121 rfl ?_
        refine z_sub [1, 2, 3, 4] rfl ?_
        exact hj123 _ h
      · replace h := (if_pos hc15).symm.trans h
        refine z_aload_n (pc := 111) hX 1 dX1_create_111 rfl rfl ?_
        refine z_get (pc := 112) (c := o) (j := 4) (v := .ref (ad (o + 5))) hX rfl zfl_RX1_24 (zCat_lt ho) (zCat_e (ca := ca) (f := m7 o) ho) rfl dX1_create_112 ?_
        refine z_iload (pc := 115) hX 0 dX1_create_115 rfl ?_
        obtain ⟨x14, hx14, hi14, h⟩ := zrd_s h
        refine z_iald (pc := 117) (c := (o + 5)) hX (zCat_a5 ho) hi14 hx14 dX1_create_117 ?_
        refine z_goto (pc := 118) (tgt := 123) hX dX1_create_118 (by decide) ?_
        refine z_sub [1, 2, 3, 4] rfl ?_
        exact hj123 _ h
      )
  refine z_icmp_ne (pc := 39) (tgt := 47) hX dX1_create_39 (by decide) (fun hc20 => ?_) (fun hc20 => ?_)
  · replace h := (if_neg hc20).symm.trans h
    refine z_aload_n (pc := 47) hX 1 dX1_create_47 rfl rfl ?_
    refine z_get (pc := 48) (c := o) (j := 8) (v := .ref (ad (o + 9))) hX rfl zfl_RX1_36 (zCat_lt ho) (zCat_e (ca := ca) (f := m4 o) ho) rfl dX1_create_48 ?_
    refine z_aload_n (pc := 51) hX 1 dX1_create_51 rfl rfl ?_
    refine z_aload_n (pc := 52) hX 1 dX1_create_52 rfl rfl ?_
    refine z_get (pc := 53) (c := o) (j := 3) (v := .ref (ad (o + 4))) hX rfl zfl_RX1_21 (zCat_lt ho) (zCat_e (ca := ca) (f := m4 o) ho) rfl dX1_create_53 ?_
    refine z_iload_n (pc := 56) hX 2 dX1_create_56 rfl rfl ?_
    obtain ⟨x16, hx16, hi16, h⟩ := zrd_s h
    refine z_iald (pc := 57) (c := (o + 4)) hX (zCat_a4 ho) hi16 hx16 dX1_create_57 ?_
    refine z_iload_n (pc := 58) hX 3 dX1_create_58 rfl rfl ?_
    obtain ⟨r17, hr17, h⟩ := zcl_s h
    refine z_callVr (pc := 59) (c := o) hX [.int (zI x16), .int (zI a2)] [.ref (ad (o + 9))] (wX1_longestBehind (ca := ca) hG ho hr17) rfl zmv_RX1_49 (zCat_lt ho) (zCat_e (ca := ca) (f := m4 o) ho) rfl rfl ⟨rfl, rfl⟩ ⟨by decide, by decide⟩ (Nat.le_of_ble_eq_true rfl) dX1_create_59 ?_
    refine z_iload_n (pc := 62) hX 3 dX1_create_62 rfl rfl ?_
    obtain ⟨r18, hr18, h⟩ := zcl_s h
    refine z_callSr (pc := 63) hX [.int (zI r17), .int (zI a2)] [.ref (ad (o + 9))] (wX1_edge (ca := ca) hG  hr18) zms_RX1_53 rfl rfl ⟨rfl, rfl⟩ ⟨by decide, by decide⟩ (Nat.le_of_ble_eq_true rfl) dX1_create_63 ?_
    obtain ⟨x19, hx19, hi19, h⟩ := zrd_s h
    refine z_iald (pc := 66) (c := (o + 9)) hX (zCat_a9 ho) hi19 hx19 dX1_create_66 ?_
    refine z_sub [1, 2, 3, 0] rfl ?_
    exact hj67 _ h
  · replace h := (if_pos hc20).symm.trans h
    refine z_bipush (pc := 42) hX dX1_create_42 (by decide +kernel) ?_
    refine z_goto (pc := 44) (tgt := 67) hX dX1_create_44 (by decide) ?_
    refine z_sub [1, 2, 3, 0] rfl ?_
    exact hj67 _ h
def rmX1_add : Room := { frames := 2, cells := 0, slots := 0, locals := 49 }
set_option maxRecDepth 20000 in
set_option maxHeartbeats 4000000 in
theorem wX1_add {l : Launch} {D : va_G} {ca : Nat → ClassId} {ad : Nat → Nat} (hG : zGok (zGC D ca ad)) {o : Nat} (ho : zCat o) {a1 : Int} {r0 : Int} {m0 : zM} {m : zM} (h : FX1_add o a1 m = some (r0, m0)) : zCt l (zGC D ca ad) yX1_add cX1_add 4 (some .int) rmX1_add [.ref (ad o), .int (zI a1)] m (some (.int (zI r0))) m0 := by
  unfold FX1_add at h
  refine z_of (plainFor_of_name (by decide +kernel)) hG (Nat.le_of_ble_eq_true rfl) (fun X hX => ?_)
  show zV X 4 m 0 [(0, .ref (ad o)), (1, .int (zI a1))] []
  refine z_aload_n (pc := 0) hX 0 dX1_add_0 rfl rfl ?_
  refine z_get (pc := 1) (c := o) (j := 0) (v := .ref (ad (o + 1))) hX rfl zfl_RX1_9 (zCat_lt ho) (zCat_e (ca := ca) (f := m o) ho) rfl dX1_add_1 ?_
  refine z_aload_n (pc := 4) hX 0 dX1_add_4 rfl rfl ?_
  refine z_get (pc := 5) (c := o) (j := 9) (v := .int (zI (m o 9))) hX rfl zfl_RX1_45 (zCat_lt ho) (zCat_e (ca := ca) (f := m o) ho) rfl dX1_add_5 ?_
  refine z_iload_n (pc := 8) hX 1 dX1_add_8 rfl rfl ?_
  obtain ⟨m1, hm1, hi1, h⟩ := zwr_s h
  refine z_iast (pc := 9) (c := (o + 1)) hX (zCat_a1 ho) hi1 hm1 dX1_add_9 ?_
  refine z_aload_n (pc := 10) hX 0 dX1_add_10 rfl rfl ?_
  refine z_aload_n (pc := 11) hX 0 dX1_add_11 rfl rfl ?_
  refine z_get (pc := 12) (c := o) (j := 9) (v := .int (zI (m1 o 9))) hX rfl zfl_RX1_45 (zCat_lt ho) (zCat_e (ca := ca) (f := m1 o) ho) rfl dX1_add_12 ?_
  obtain ⟨j34, hj34, h⟩ := zjn_s h (fun (j : Int → Option (Int × zM)) => ∀ (s34_0 : Int), j s34_0 = some (r0, m0) → zV X 4 m1 34 [(0, .ref (ad o)), (1, .int (zI a1))] [.int (zI s34_0), .ref (ad o)]) (fun s34_0 h => by
      refine z_iload_n (pc := 34) hX 1 dX1_add_34 rfl rfl ?_
      obtain ⟨r2, hr2, h⟩ := zcl_s h
      refine z_callVr (pc := 35) (c := o) hX [.int (zI s34_0), .int (zI a1)] [] (wX1_longestBehind (ca := ca) hG ho hr2) rfl zmv_RX1_49 (zCat_lt ho) (zCat_e (ca := ca) (f := m1 o) ho) rfl rfl ⟨rfl, rfl⟩ ⟨by decide, by decide⟩ (Nat.le_of_ble_eq_true rfl) dX1_add_35 ?_
      refine z_istore_n (pc := 38) (lv' := [(2, .int (zI r2)), (0, .ref (ad o)), (1, .int (zI a1))]) hX dX1_add_38 rfl (by decide) rfl ?_
      refine z_aload_n (pc := 39) hX 1 dX1_add_39 rfl rfl ?_
      refine z_get (pc := 40) (c := o) (j := 8) (v := .ref (ad (o + 9))) hX rfl zfl_RX1_36 (zCat_lt ho) (zCat_e (ca := ca) (f := m1 o) ho) rfl dX1_add_40 ?_
      refine z_iload_n (pc := 43) hX 0 dX1_add_43 rfl rfl ?_
      refine z_iload_n (pc := 44) hX 2 dX1_add_44 rfl rfl ?_
      obtain ⟨r3, hr3, h⟩ := zcl_s h
      refine z_callSr (pc := 45) hX [.int (zI r2), .int (zI a1)] [.ref (ad (o + 9))] (wX1_edge (ca := ca) hG  hr3) zms_RX1_53 rfl rfl ⟨rfl, rfl⟩ ⟨by decide, by decide⟩ (Nat.le_of_ble_eq_true rfl) dX1_add_45 ?_
      obtain ⟨x4, hx4, hi4, h⟩ := zrd_s h
      refine z_iald (pc := 48) (c := (o + 9)) hX (zCat_a9 ho) hi4 hx4 dX1_add_48 ?_
      refine z_istore_n (pc := 49) (lv' := [(3, .int (zI x4)), (2, .int (zI r2)), (0, .ref (ad o)), (1, .int (zI a1))]) hX dX1_add_49 rfl (by decide) rfl ?_
      refine z_iload_n (pc := 50) hX 0 dX1_add_50 rfl rfl ?_
      refine z_iconst (pc := 51) hX dX1_add_51 ?_
      obtain ⟨j62, hj62, h⟩ := zjn_s h (fun (j : Int → zM → Option (Int × zM)) => ∀ (u62_3 : Int) (mj62 : zM), j u62_3 mj62 = some (r0, m0) → zV X 4 mj62 62 [(0, .ref (ad o)), (3, .int (zI u62_3))] []) (fun u62_3 mj62 h => by
          refine z_aload_n (pc := 62) hX 0 dX1_add_62 rfl rfl ?_
          refine z_get (pc := 63) (c := o) (j := 1) (v := .ref (ad (o + 2))) hX rfl zfl_RX1_15 (zCat_lt ho) (zCat_e (ca := ca) (f := mj62 o) ho) rfl dX1_add_63 ?_
          refine z_aload_n (pc := 66) hX 0 dX1_add_66 rfl rfl ?_
          refine z_get (pc := 67) (c := o) (j := 9) (v := .int (zI (mj62 o 9))) hX rfl zfl_RX1_45 (zCat_lt ho) (zCat_e (ca := ca) (f := mj62 o) ho) rfl dX1_add_67 ?_
          refine z_iload_n (pc := 70) hX 1 dX1_add_70 rfl rfl ?_
          obtain ⟨m5, hm5, hi5, h⟩ := zwr_s h
          refine z_iast (pc := 71) (c := (o + 2)) hX (zCat_a2 ho) hi5 hm5 dX1_add_71 ?_
          refine z_aload_n (pc := 72) hX 0 dX1_add_72 rfl rfl ?_
          refine z_dup (pc := 73) hX dX1_add_73 rfl ?_
          refine z_get (pc := 74) (c := o) (j := 9) (v := .int (zI (m5 o 9))) hX rfl zfl_RX1_45 (zCat_lt ho) (zCat_e (ca := ca) (f := m5 o) ho) rfl dX1_add_74 ?_
          refine z_iconst (pc := 77) hX dX1_add_77 ?_
          refine z_iadd (pc := 78) hX dX1_add_78 ?_
          obtain ⟨m6, hm6, h⟩ := zpf_s h
          refine z_put (pc := 79) (c := o) (j := 9) hX rfl zfl_RX1_45 zfi_1_9 (zCat_lt ho) (zCat_e (ca := ca) (f := m5 o) ho) (Nat.le_of_ble_eq_true rfl) (zCat_p9 (ca := ca) ho) hm6 dX1_add_79 ?_
          refine z_aload_n (pc := 82) hX 0 dX1_add_82 rfl rfl ?_
          refine z_get (pc := 83) (c := o) (j := 2) (v := .ref (ad (o + 3))) hX rfl zfl_RX1_18 (zCat_lt ho) (zCat_e (ca := ca) (f := m6 o) ho) rfl dX1_add_83 ?_
          refine z_iload_n (pc := 86) hX 1 dX1_add_86 rfl rfl ?_
          obtain ⟨x7, hx7, hi7, h⟩ := zrd_s h
          refine z_iald (pc := 87) (c := (o + 3)) hX (zCat_a3 ho) hi7 hx7 dX1_add_87 ?_
          exact z_iret (pc := 88) hX rfl rfl (Prod.mk.inj (Option.some.inj h)).1 (Prod.mk.inj (Option.some.inj h)).2 dX1_add_88
          )
      refine z_icmp_ne (pc := 52) (tgt := 62) hX dX1_add_52 (by decide) (fun hc9 => ?_) (fun hc9 => ?_)
      · replace h := (if_neg hc9).symm.trans h
        refine z_sub [2, 0] rfl ?_
        exact hj62 _ _ h
      · replace h := (if_pos hc9).symm.trans h
        refine z_aload_n (pc := 55) hX 2 dX1_add_55 rfl rfl ?_
        refine z_iload_n (pc := 56) hX 1 dX1_add_56 rfl rfl ?_
        refine z_iload_n (pc := 57) hX 3 dX1_add_57 rfl rfl ?_
        obtain ⟨r8, m8, hr8, h⟩ := zcl2_s h
        refine z_callVr (pc := 58) (c := o) hX [.int (zI r2), .int (zI a1)] [] (wX1_create (ca := ca) hG ho hr8) rfl zmv_RX1_56 (zCat_lt ho) (zCat_e (ca := ca) (f := m1 o) ho) rfl rfl ⟨rfl, rfl⟩ ⟨by decide, by decide⟩ (Nat.le_of_ble_eq_true rfl) dX1_add_58 ?_
        refine z_istore_n (pc := 61) (lv' := [(3, .int (zI r8)), (2, .int (zI r2)), (0, .ref (ad o)), (1, .int (zI a1))]) hX dX1_add_61 rfl (by decide) rfl ?_
        refine z_sub [2, 0] rfl ?_
        exact hj62 _ _ h
      )
  refine z_if_ne (pc := 15) (tgt := 23) hX dX1_add_15 (by decide) (fun hc11 => ?_) (fun hc11 => ?_)
  · replace h := (if_neg hc11).symm.trans h
    refine z_aload_n (pc := 23) hX 0 dX1_add_23 rfl rfl ?_
    refine z_get (pc := 24) (c := o) (j := 1) (v := .ref (ad (o + 2))) hX rfl zfl_RX1_15 (zCat_lt ho) (zCat_e (ca := ca) (f := m1 o) ho) rfl dX1_add_24 ?_
    refine z_aload_n (pc := 27) hX 0 dX1_add_27 rfl rfl ?_
    refine z_get (pc := 28) (c := o) (j := 9) (v := .int (zI (m1 o 9))) hX rfl zfl_RX1_45 (zCat_lt ho) (zCat_e (ca := ca) (f := m1 o) ho) rfl dX1_add_28 ?_
    refine z_iconst (pc := 31) hX dX1_add_31 ?_
    refine z_isub (pc := 32) hX dX1_add_32 ?_
    obtain ⟨x10, hx10, hi10, h⟩ := zrd_s h
    refine z_iald (pc := 33) (c := (o + 2)) hX (zCat_a2 ho) hi10 hx10 dX1_add_33 ?_
    exact hj34 _ h
  · replace h := (if_pos hc11).symm.trans h
    refine z_bipush (pc := 18) hX dX1_add_18 (by decide +kernel) ?_
    refine z_goto (pc := 20) (tgt := 34) hX dX1_add_20 (by decide) ?_
    exact hj34 _ h
def rmX1_shorten : Room := { frames := 2, cells := 0, slots := 0, locals := 42 }
set_option maxRecDepth 20000 in
set_option maxHeartbeats 4000000 in
theorem wX1_shorten_L5 {X : zXT} {l : Launch} {D : va_G} {ca : Nat → ClassId} {ad : Nat → Nat} (hG : zGok (zGC D ca ad)) {o : Nat} (ho : zCat o) {a1 : Int}  {m0 : zM}  (hX : zC X l rmX1_shorten (zGC D ca ad) none m0 cX1_shorten 3 RX1 none) {k : Int → zM → Option (zM)} (hk : ∀ (v2 : Int) (m_ : zM), k v2 m_ = some m0 → zV X 3 m_ 20 [(0, .ref (ad o)), (1, .int (zI a1)), (2, .int (zI v2))] []) : ∀ (n : Nat) (v2 : Int) (m_ : zM), FX1_shorten_L5 o a1 k n v2 m_ = some m0 → zV X 3 m_ 5 [(0, .ref (ad o)), (1, .int (zI a1)), (2, .int (zI v2))] [] := by
  intro n
  induction n with
  | zero => intro v2 m_ h; cases h
  | succ n ih =>
    intro v2 m_ h
    replace h : FX1_shorten_L5_B o a1 k (FX1_shorten_L5 o a1 k n) v2 m_ = some m0 := h
    unfold FX1_shorten_L5_B at h
    refine z_iload_n (pc := 5) hX 2 dX1_shorten_5 rfl rfl ?_
    refine z_iload_n (pc := 6) hX 1 dX1_shorten_6 rfl rfl ?_
    refine z_icmp_le (pc := 7) (tgt := 20) hX dX1_shorten_7 (by decide) (fun hc2 => ?_) (fun hc2 => ?_)
    · replace h := (if_neg hc2).symm.trans h
      exact hk _ _ h
    · replace h := (if_pos hc2).symm.trans h
      refine z_aload_n (pc := 10) hX 0 dX1_shorten_10 rfl rfl ?_
      obtain ⟨m1, hr1, h⟩ := zcl_s h
      refine z_callVv (pc := 11) (v := .null) (c := o) hX [] [] (wX1_removeLast (ca := ca) hG ho hr1) rfl zmv_RX1_73 (zCat_lt ho) (zCat_e (ca := ca) (f := m_ o) ho) rfl rfl ⟨rfl, rfl⟩ ⟨by decide, by decide⟩ (Nat.le_of_ble_eq_true rfl) dX1_shorten_11 ?_
      refine z_iinc (pc := 14) (lv' := [(2, .int (zI (v2 + -1))), (0, .ref (ad o)), (1, .int (zI a1))]) hX 2 dX1_shorten_14 rfl (by decide) rfl ?_
      refine z_goto (pc := 17) (tgt := 5) hX dX1_shorten_17 (by decide) ?_
      refine z_sub [1, 2, 0] rfl ?_
      exact ih _ _ h
set_option maxRecDepth 20000 in
set_option maxHeartbeats 4000000 in
theorem wX1_shorten {l : Launch} {D : va_G} {ca : Nat → ClassId} {ad : Nat → Nat} (hG : zGok (zGC D ca ad)) {o : Nat} (ho : zCat o) {a1 : Int} {m0 : zM} {m : zM} (h : FX1_shorten o a1 m = some m0) : zCt l (zGC D ca ad) yX1_shorten cX1_shorten 3 none rmX1_shorten [.ref (ad o), .int (zI a1)] m none m0 := by
  unfold FX1_shorten at h
  refine z_of (plainFor_of_name (by decide +kernel)) hG (Nat.le_of_ble_eq_true rfl) (fun X hX => ?_)
  show zV X 3 m 0 [(0, .ref (ad o)), (1, .int (zI a1))] []
  refine z_aload_n (pc := 0) hX 0 dX1_shorten_0 rfl rfl ?_
  refine z_get (pc := 1) (c := o) (j := 9) (v := .int (zI (m o 9))) hX rfl zfl_RX1_45 (zCat_lt ho) (zCat_e (ca := ca) (f := m o) ho) rfl dX1_shorten_1 ?_
  refine z_istore_n (pc := 4) (lv' := [(2, .int (zI (m o 9))), (0, .ref (ad o)), (1, .int (zI a1))]) hX dX1_shorten_4 rfl (by decide) rfl ?_
  refine z_sub [1, 2, 0] rfl ?_
  refine wX1_shorten_L5 hG ho hX (fun y5_2 m5_ h => ?_) _ _ _ h
  exact z_vret (pc := 20) hX rfl rfl (Option.some.inj h) dX1_shorten_20
def rmX1_replace : Room := { frames := 3, cells := 0, slots := 0, locals := 72 }
set_option maxRecDepth 20000 in
set_option maxHeartbeats 4000000 in
theorem wX1_replace_L21 {X : zXT} {l : Launch} {D : va_G} {ca : Nat → ClassId} {ad : Nat → Nat} (hG : zGok (zGC D ca ad)) {o : Nat} (ho : zCat o) {a1 : Int} {a2 : Int}  {m0 : zM} {k3 : Int} (hX : zC X l rmX1_replace (zGC D ca ad) none m0 cX1_replace 5 RX1 none) {k : Int → zM → Option (zM)} (hk : ∀ (v4 : Int) (m_ : zM), k v4 m_ = some m0 → zV X 5 m_ 45 [(0, .ref (ad o)), (3, .int (zI k3)), (4, .int (zI v4))] []) : ∀ (n : Nat) (v4 : Int) (m_ : zM), FX1_replace_L21 o a1 a2 k3 k n v4 m_ = some m0 → zV X 5 m_ 21 [(0, .ref (ad o)), (3, .int (zI k3)), (4, .int (zI v4))] [] := by
  intro n
  induction n with
  | zero => intro v4 m_ h; cases h
  | succ n ih =>
    intro v4 m_ h
    replace h : FX1_replace_L21_B o a1 a2 k3 k (FX1_replace_L21 o a1 a2 k3 k n) v4 m_ = some m0 := h
    unfold FX1_replace_L21_B at h
    refine z_iload (pc := 21) hX 2 dX1_replace_21 rfl ?_
    refine z_iload_n (pc := 23) hX 1 dX1_replace_23 rfl rfl ?_
    refine z_icmp_ge (pc := 24) (tgt := 45) hX dX1_replace_24 (by decide) (fun hc5 => ?_) (fun hc5 => ?_)
    · replace h := (if_neg hc5).symm.trans h
      exact hk _ _ h
    · replace h := (if_pos hc5).symm.trans h
      refine z_aload_n (pc := 27) hX 0 dX1_replace_27 rfl rfl ?_
      refine z_aload_n (pc := 28) hX 0 dX1_replace_28 rfl rfl ?_
      refine z_get (pc := 29) (c := o) (j := 0) (v := .ref (ad (o + 1))) hX rfl zfl_RX1_9 (zCat_lt ho) (zCat_e (ca := ca) (f := m_ o) ho) rfl dX1_replace_29 ?_
      refine z_iload (pc := 32) hX 2 dX1_replace_32 rfl ?_
      obtain ⟨x3, hx3, hi3, h⟩ := zrd_s h
      refine z_iald (pc := 34) (c := (o + 1)) hX (zCat_a1 ho) hi3 hx3 dX1_replace_34 ?_
      obtain ⟨r4, m4, hr4, h⟩ := zcl2_s h
      refine z_callVr (pc := 35) (c := o) hX [.int (zI x3)] [] (wX1_add (ca := ca) hG ho hr4) rfl zmv_RX1_70 (zCat_lt ho) (zCat_e (ca := ca) (f := m_ o) ho) rfl rfl ⟨rfl, rfl⟩ ⟨by decide, by decide⟩ (Nat.le_of_ble_eq_true rfl) dX1_replace_35 ?_
      refine z_pop (pc := 38) hX dX1_replace_38 rfl ?_
      refine z_iinc (pc := 39) (lv' := [(4, .int (zI (v4 + 1))), (0, .ref (ad o)), (3, .int (zI k3))]) hX 2 dX1_replace_39 rfl (by decide) rfl ?_
      refine z_goto (pc := 42) (tgt := 21) hX dX1_replace_42 (by decide) ?_
      refine z_sub [1, 2, 0] rfl ?_
      exact ih _ _ h
set_option maxRecDepth 20000 in
set_option maxHeartbeats 4000000 in
theorem wX1_replace {l : Launch} {D : va_G} {ca : Nat → ClassId} {ad : Nat → Nat} (hG : zGok (zGC D ca ad)) {o : Nat} (ho : zCat o) {a1 : Int} {a2 : Int} {m0 : zM} {m : zM} (h : FX1_replace o a1 a2 m = some m0) : zCt l (zGC D ca ad) yX1_replace cX1_replace 5 none rmX1_replace [.ref (ad o), .int (zI a1), .int (zI a2)] m none m0 := by
  unfold FX1_replace at h
  refine z_of (plainFor_of_name (by decide +kernel)) hG (Nat.le_of_ble_eq_true rfl) (fun X hX => ?_)
  show zV X 5 m 0 [(0, .ref (ad o)), (1, .int (zI a1)), (2, .int (zI a2))] []
  refine z_aload_n (pc := 0) hX 0 dX1_replace_0 rfl rfl ?_
  refine z_get (pc := 1) (c := o) (j := 9) (v := .int (zI (m o 9))) hX rfl zfl_RX1_45 (zCat_lt ho) (zCat_e (ca := ca) (f := m o) ho) rfl dX1_replace_1 ?_
  refine z_istore_n (pc := 4) (lv' := [(3, .int (zI (m o 9))), (0, .ref (ad o)), (1, .int (zI a1)), (2, .int (zI a2))]) hX dX1_replace_4 rfl (by decide) rfl ?_
  refine z_aload_n (pc := 5) hX 1 dX1_replace_5 rfl rfl ?_
  refine z_iload_n (pc := 6) hX 2 dX1_replace_6 rfl rfl ?_
  obtain ⟨m1, hr1, h⟩ := zcl_s h
  refine z_callVv (pc := 7) (v := .null) (c := o) hX [.int (zI a1)] [] (wX1_shorten (ca := ca) hG ho hr1) rfl zmv_RX1_66 (zCat_lt ho) (zCat_e (ca := ca) (f := m o) ho) rfl rfl ⟨rfl, rfl⟩ ⟨by decide, by decide⟩ (Nat.le_of_ble_eq_true rfl) dX1_replace_7 ?_
  refine z_aload_n (pc := 10) hX 1 dX1_replace_10 rfl rfl ?_
  refine z_iload_n (pc := 11) hX 3 dX1_replace_11 rfl rfl ?_
  obtain ⟨r2, m2, hr2, h⟩ := zcl2_s h
  refine z_callVr (pc := 12) (c := o) hX [.int (zI a2)] [] (wX1_add (ca := ca) hG ho hr2) rfl zmv_RX1_70 (zCat_lt ho) (zCat_e (ca := ca) (f := m1 o) ho) rfl rfl ⟨rfl, rfl⟩ ⟨by decide, by decide⟩ (Nat.le_of_ble_eq_true rfl) dX1_replace_12 ?_
  refine z_pop (pc := 15) hX dX1_replace_15 rfl ?_
  refine z_iload_n (pc := 16) hX 2 dX1_replace_16 rfl rfl ?_
  refine z_iconst (pc := 17) hX dX1_replace_17 ?_
  refine z_iadd (pc := 18) hX dX1_replace_18 ?_
  refine z_istore (pc := 19) (lv' := [(4, .int (zI (a1 + 1))), (3, .int (zI (m o 9))), (0, .ref (ad o)), (1, .int (zI a1)), (2, .int (zI a2))]) hX dX1_replace_19 (by decide) rfl ?_
  refine z_sub [2, 1, 0] rfl ?_
  refine wX1_replace_L21 hG ho hX (fun y21_4 m21_ h => ?_) _ _ _ h
  exact z_vret (pc := 45) hX rfl rfl (Option.some.inj h) dX1_replace_45
def rmX0_takeBackLatest : Room := { frames := 4, cells := 0, slots := 0, locals := 96 }
set_option maxRecDepth 20000 in
set_option maxHeartbeats 4000000 in
theorem wX0_takeBackLatest {l : Launch} {D : va_G} {ca : Nat → ClassId} {ad : Nat → Nat} (hG : zGok (zGC D ca ad)) {o1 : Nat} (h1 : zCat o1) {m0 : zM} {m : zM} (h : FX0_takeBackLatest o1 m = some m0) : zCt l (zGC D ca ad) yX0_takeBackLatest cX0_takeBackLatest 2 none rmX0_takeBackLatest [.ref (ad 21), .ref (ad o1)] m none m0 := by
  unfold FX0_takeBackLatest at h
  refine z_of (plainFor_of_name (by decide +kernel)) hG (Nat.le_of_ble_eq_true rfl) (fun X hX => ?_)
  show zV X 2 m 0 [(0, .ref (ad 21)), (1, .ref (ad o1))] []
  refine z_aload_n (pc := 0) hX 0 dX0_takeBackLatest_0 rfl rfl ?_
  refine z_dup (pc := 1) hX dX0_takeBackLatest_1 rfl ?_
  refine z_get (pc := 2) (c := 21) (j := 3) (v := .int (zI (m 21 3))) hX rfl zfl_RX0_19 (Nat.le_of_ble_eq_true rfl) (zActs_e (ca := ca) (f := m 21)) rfl dX0_takeBackLatest_2 ?_
  refine z_iconst (pc := 5) hX dX0_takeBackLatest_5 ?_
  refine z_isub (pc := 6) hX dX0_takeBackLatest_6 ?_
  obtain ⟨m1, hm1, h⟩ := zpf_s h
  refine z_put (pc := 7) (c := 21) (j := 3) hX rfl zfl_RX0_19 zfi_0_3 (Nat.le_of_ble_eq_true rfl) (zActs_e (ca := ca) (f := m 21)) (Nat.le_of_ble_eq_true rfl) (zActs_p3 (ca := ca)) hm1 dX0_takeBackLatest_7 ?_
  refine z_aload_n (pc := 10) hX 0 dX0_takeBackLatest_10 rfl rfl ?_
  refine z_get (pc := 11) (c := 21) (j := 0) (v := .ref (ad 22)) hX rfl zfl_RX0_9 (Nat.le_of_ble_eq_true rfl) (zActs_e (ca := ca) (f := m1 21)) rfl dX0_takeBackLatest_11 ?_
  refine z_aload_n (pc := 14) hX 0 dX0_takeBackLatest_14 rfl rfl ?_
  refine z_get (pc := 15) (c := 21) (j := 3) (v := .int (zI (m1 21 3))) hX rfl zfl_RX0_19 (Nat.le_of_ble_eq_true rfl) (zActs_e (ca := ca) (f := m1 21)) rfl dX0_takeBackLatest_15 ?_
  obtain ⟨x2, hx2, hi2, h⟩ := zrd_s h
  refine z_iald (pc := 18) (c := 22) hX zCi22 hi2 hx2 dX0_takeBackLatest_18 ?_
  refine z_if_ne (pc := 19) (tgt := 29) hX dX0_takeBackLatest_19 (by decide) (fun hc11 => ?_) (fun hc11 => ?_)
  · replace h := (if_neg hc11).symm.trans h
    refine z_aload_n (pc := 29) hX 0 dX0_takeBackLatest_29 rfl rfl ?_
    refine z_get (pc := 30) (c := 21) (j := 0) (v := .ref (ad 22)) hX rfl zfl_RX0_9 (Nat.le_of_ble_eq_true rfl) (zActs_e (ca := ca) (f := m1 21)) rfl dX0_takeBackLatest_30 ?_
    refine z_aload_n (pc := 33) hX 0 dX0_takeBackLatest_33 rfl rfl ?_
    refine z_get (pc := 34) (c := 21) (j := 3) (v := .int (zI (m1 21 3))) hX rfl zfl_RX0_19 (Nat.le_of_ble_eq_true rfl) (zActs_e (ca := ca) (f := m1 21)) rfl dX0_takeBackLatest_34 ?_
    obtain ⟨x3, hx3, hi3, h⟩ := zrd_s h
    refine z_iald (pc := 37) (c := 22) hX zCi22 hi3 hx3 dX0_takeBackLatest_37 ?_
    refine z_iconst (pc := 38) hX dX0_takeBackLatest_38 ?_
    refine z_icmp_ne (pc := 39) (tgt := 59) hX dX0_takeBackLatest_39 (by decide) (fun hc9 => ?_) (fun hc9 => ?_)
    · replace h := (if_neg hc9).symm.trans h
      refine z_aload_n (pc := 59) hX 1 dX0_takeBackLatest_59 rfl rfl ?_
      refine z_aload_n (pc := 60) hX 0 dX0_takeBackLatest_60 rfl rfl ?_
      refine z_get (pc := 61) (c := 21) (j := 1) (v := .ref (ad 23)) hX rfl zfl_RX0_13 (Nat.le_of_ble_eq_true rfl) (zActs_e (ca := ca) (f := m1 21)) rfl dX0_takeBackLatest_61 ?_
      refine z_aload_n (pc := 64) hX 0 dX0_takeBackLatest_64 rfl rfl ?_
      refine z_get (pc := 65) (c := 21) (j := 3) (v := .int (zI (m1 21 3))) hX rfl zfl_RX0_19 (Nat.le_of_ble_eq_true rfl) (zActs_e (ca := ca) (f := m1 21)) rfl dX0_takeBackLatest_65 ?_
      obtain ⟨x4, hx4, hi4, h⟩ := zrd_s h
      refine z_iald (pc := 68) (c := 23) hX zCi23 hi4 hx4 dX0_takeBackLatest_68 ?_
      refine z_aload_n (pc := 69) hX 0 dX0_takeBackLatest_69 rfl rfl ?_
      refine z_get (pc := 70) (c := 21) (j := 2) (v := .ref (ad 24)) hX rfl zfl_RX0_16 (Nat.le_of_ble_eq_true rfl) (zActs_e (ca := ca) (f := m1 21)) rfl dX0_takeBackLatest_70 ?_
      refine z_aload_n (pc := 73) hX 0 dX0_takeBackLatest_73 rfl rfl ?_
      refine z_get (pc := 74) (c := 21) (j := 3) (v := .int (zI (m1 21 3))) hX rfl zfl_RX0_19 (Nat.le_of_ble_eq_true rfl) (zActs_e (ca := ca) (f := m1 21)) rfl dX0_takeBackLatest_74 ?_
      obtain ⟨x5, hx5, hi5, h⟩ := zrd_s h
      refine z_iald (pc := 77) (c := 24) hX zCi24 hi5 hx5 dX0_takeBackLatest_77 ?_
      obtain ⟨m6, hr6, h⟩ := zcl_s h
      refine z_callVv (pc := 78) (v := .null) (c := o1) hX [.int (zI x4), .int (zI x5)] [] (wX1_replace (ca := ca) hG h1 hr6) rfl zmv_RX0_41 (zCat_lt h1) (zCat_e (ca := ca) (f := m1 o1) h1) rfl rfl ⟨rfl, rfl⟩ ⟨by decide, by decide⟩ (Nat.le_of_ble_eq_true rfl) dX0_takeBackLatest_78 ?_
      exact z_vret (pc := 81) hX rfl rfl (Option.some.inj h) dX0_takeBackLatest_81
    · replace h := (if_pos hc9).symm.trans h
      refine z_aload_n (pc := 42) hX 1 dX0_takeBackLatest_42 rfl rfl ?_
      refine z_aload_n (pc := 43) hX 0 dX0_takeBackLatest_43 rfl rfl ?_
      refine z_get (pc := 44) (c := 21) (j := 2) (v := .ref (ad 24)) hX rfl zfl_RX0_16 (Nat.le_of_ble_eq_true rfl) (zActs_e (ca := ca) (f := m1 21)) rfl dX0_takeBackLatest_44 ?_
      refine z_aload_n (pc := 47) hX 0 dX0_takeBackLatest_47 rfl rfl ?_
      refine z_get (pc := 48) (c := 21) (j := 3) (v := .int (zI (m1 21 3))) hX rfl zfl_RX0_19 (Nat.le_of_ble_eq_true rfl) (zActs_e (ca := ca) (f := m1 21)) rfl dX0_takeBackLatest_48 ?_
      obtain ⟨x7, hx7, hi7, h⟩ := zrd_s h
      refine z_iald (pc := 51) (c := 24) hX zCi24 hi7 hx7 dX0_takeBackLatest_51 ?_
      obtain ⟨r8, m8, hr8, h⟩ := zcl2_s h
      refine z_callVr (pc := 52) (c := o1) hX [.int (zI x7)] [] (wX1_add (ca := ca) hG h1 hr8) rfl zmv_RX0_37 (zCat_lt h1) (zCat_e (ca := ca) (f := m1 o1) h1) rfl rfl ⟨rfl, rfl⟩ ⟨by decide, by decide⟩ (Nat.le_of_ble_eq_true rfl) dX0_takeBackLatest_52 ?_
      refine z_pop (pc := 55) hX dX0_takeBackLatest_55 rfl ?_
      refine z_goto (pc := 56) (tgt := 81) hX dX0_takeBackLatest_56 (by decide) ?_
      exact z_vret (pc := 81) hX rfl rfl (Option.some.inj h) dX0_takeBackLatest_81
  · replace h := (if_pos hc11).symm.trans h
    refine z_aload_n (pc := 22) hX 1 dX0_takeBackLatest_22 rfl rfl ?_
    obtain ⟨m10, hr10, h⟩ := zcl_s h
    refine z_callVv (pc := 23) (v := .null) (c := o1) hX [] [] (wX1_removeLast (ca := ca) hG h1 hr10) rfl zmv_RX0_32 (zCat_lt h1) (zCat_e (ca := ca) (f := m1 o1) h1) rfl rfl ⟨rfl, rfl⟩ ⟨by decide, by decide⟩ (Nat.le_of_ble_eq_true rfl) dX0_takeBackLatest_23 ?_
    refine z_goto (pc := 26) (tgt := 81) hX dX0_takeBackLatest_26 (by decide) ?_
    exact z_vret (pc := 81) hX rfl rfl (Option.some.inj h) dX0_takeBackLatest_81
def rmX1_allPlaces : Room := { frames := 0, cells := 0, slots := 0, locals := 0 }
set_option maxRecDepth 20000 in
set_option maxHeartbeats 4000000 in
theorem wX1_allPlaces_L4 {X : zXT} {l : Launch} {D : va_G} {ca : Nat → ClassId} {ad : Nat → Nat} (hG : zGok (zGC D ca ad)) {o : Nat} (ho : zCat o)  {r0 : Int} {m : zM}  (hX : zC X l rmX1_allPlaces (zGC D ca ad) (some (.int (zI r0))) m cX1_allPlaces 3 RX1 (some .int)) {k : Int → Int → Option (Int)} (hk : ∀ (v1 : Int) (v2 : Int), k v1 v2 = some r0 → zV X 3 m 32 [(0, .ref (ad o)), (1, .int (zI v1)), (2, .int (zI v2))] []) : ∀ (n : Nat) (v1 : Int) (v2 : Int), FX1_allPlaces_L4 o m k n v1 v2 = some r0 → zV X 3 m 4 [(0, .ref (ad o)), (1, .int (zI v1)), (2, .int (zI v2))] [] := by
  intro n
  induction n with
  | zero => intro v1 v2 h; cases h
  | succ n ih =>
    intro v1 v2 h
    replace h : FX1_allPlaces_L4_B o m k (FX1_allPlaces_L4 o m k n) v1 v2 = some r0 := h
    unfold FX1_allPlaces_L4_B at h
    refine z_iload_n (pc := 4) hX 2 dX1_allPlaces_4 rfl rfl ?_
    refine z_aload_n (pc := 5) hX 0 dX1_allPlaces_5 rfl rfl ?_
    refine z_get (pc := 6) (c := o) (j := 9) (v := .int (zI (m o 9))) hX rfl zfl_RX1_45 (zCat_lt ho) (zCat_e (ca := ca) (f := m o) ho) rfl dX1_allPlaces_6 ?_
    refine z_icmp_ge (pc := 9) (tgt := 32) hX dX1_allPlaces_9 (by decide) (fun hc3 => ?_) (fun hc3 => ?_)
    · replace h := (if_neg hc3).symm.trans h
      exact hk _ _ h
    · replace h := (if_pos hc3).symm.trans h
      refine z_iload_n (pc := 12) hX 1 dX1_allPlaces_12 rfl rfl ?_
      refine z_aload_n (pc := 13) hX 0 dX1_allPlaces_13 rfl rfl ?_
      refine z_get (pc := 14) (c := o) (j := 7) (v := .ref (ad (o + 8))) hX rfl zfl_RX1_33 (zCat_lt ho) (zCat_e (ca := ca) (f := m o) ho) rfl dX1_allPlaces_14 ?_
      refine z_aload_n (pc := 17) hX 0 dX1_allPlaces_17 rfl rfl ?_
      refine z_get (pc := 18) (c := o) (j := 1) (v := .ref (ad (o + 2))) hX rfl zfl_RX1_15 (zCat_lt ho) (zCat_e (ca := ca) (f := m o) ho) rfl dX1_allPlaces_18 ?_
      refine z_iload_n (pc := 21) hX 2 dX1_allPlaces_21 rfl rfl ?_
      obtain ⟨x1, hx1, hi1, h⟩ := zrd_s h
      refine z_iald (pc := 22) (c := (o + 2)) hX (zCat_a2 ho) hi1 hx1 dX1_allPlaces_22 ?_
      obtain ⟨x2, hx2, hi2, h⟩ := zrd_s h
      refine z_iald (pc := 23) (c := (o + 8)) hX (zCat_a8 ho) hi2 hx2 dX1_allPlaces_23 ?_
      refine z_iadd (pc := 24) hX dX1_allPlaces_24 ?_
      refine z_istore_n (pc := 25) (lv' := [(1, .int (zI (v1 + x2))), (0, .ref (ad o)), (2, .int (zI v2))]) hX dX1_allPlaces_25 rfl (by decide) rfl ?_
      refine z_iinc (pc := 26) (lv' := [(2, .int (zI (v2 + 1))), (1, .int (zI (v1 + x2))), (0, .ref (ad o))]) hX 2 dX1_allPlaces_26 rfl (by decide) rfl ?_
      refine z_goto (pc := 29) (tgt := 4) hX dX1_allPlaces_29 (by decide) ?_
      refine z_sub [2, 1, 0] rfl ?_
      exact ih _ _ h
set_option maxRecDepth 20000 in
set_option maxHeartbeats 4000000 in
theorem wX1_allPlaces {l : Launch} {D : va_G} {ca : Nat → ClassId} {ad : Nat → Nat} (hG : zGok (zGC D ca ad)) {o : Nat} (ho : zCat o) {r0 : Int} {m : zM} (h : FX1_allPlaces o m = some r0) : zCt l (zGC D ca ad) yX1_allPlaces cX1_allPlaces 3 (some .int) rmX1_allPlaces [.ref (ad o)] m (some (.int (zI r0))) m := by
  unfold FX1_allPlaces at h
  refine z_of (plainFor_of_name (by decide +kernel)) hG (Nat.le_of_ble_eq_true rfl) (fun X hX => ?_)
  show zV X 3 m 0 [(0, .ref (ad o))] []
  refine z_iconst (pc := 0) hX dX1_allPlaces_0 ?_
  refine z_istore_n (pc := 1) (lv' := [(1, .int (zI 0)), (0, .ref (ad o))]) hX dX1_allPlaces_1 rfl (by decide) rfl ?_
  refine z_iconst (pc := 2) hX dX1_allPlaces_2 ?_
  refine z_istore_n (pc := 3) (lv' := [(2, .int (zI 0)), (1, .int (zI 0)), (0, .ref (ad o))]) hX dX1_allPlaces_3 rfl (by decide) rfl ?_
  refine z_sub [2, 1, 0] rfl ?_
  refine wX1_allPlaces_L4 hG ho hX (fun y4_1 y4_2 h => ?_) _ _ _ h
  refine z_iload_n (pc := 32) hX 1 dX1_allPlaces_32 rfl rfl ?_
  exact z_iret (pc := 33) hX rfl rfl (Option.some.inj h) rfl dX1_allPlaces_33
def rmX1_around : Room := { frames := 0, cells := 0, slots := 0, locals := 0 }
set_option maxRecDepth 20000 in
set_option maxHeartbeats 4000000 in
theorem wX1_around {l : Launch} {D : va_G} {ca : Nat → ClassId} {ad : Nat → Nat} (hG : zGok (zGC D ca ad)) {o : Nat} (ho : zCat o) {a1 : Int} {r0 : Int} {m : zM} (h : FX1_around o a1 m = some r0) : zCt l (zGC D ca ad) yX1_around cX1_around 2 (some .int) rmX1_around [.ref (ad o), .int (zI a1)] m (some (.int (zI r0))) m := by
  unfold FX1_around at h
  refine z_of (plainFor_of_name (by decide +kernel)) hG (Nat.le_of_ble_eq_true rfl) (fun X hX => ?_)
  show zV X 2 m 0 [(0, .ref (ad o)), (1, .int (zI a1))] []
  refine z_iload_n (pc := 0) hX 1 dX1_around_0 rfl rfl ?_
  refine z_aload_n (pc := 1) hX 0 dX1_around_1 rfl rfl ?_
  refine z_get (pc := 2) (c := o) (j := 9) (v := .int (zI (m o 9))) hX rfl zfl_RX1_45 (zCat_lt ho) (zCat_e (ca := ca) (f := m o) ho) rfl dX1_around_2 ?_
  refine z_icmp_ge (pc := 5) (tgt := 12) hX dX1_around_5 (by decide) (fun hc1 => ?_) (fun hc1 => ?_)
  · replace h := (if_neg hc1).symm.trans h
    refine z_iload_n (pc := 12) hX 1 dX1_around_12 rfl rfl ?_
    refine z_aload_n (pc := 13) hX 0 dX1_around_13 rfl rfl ?_
    refine z_get (pc := 14) (c := o) (j := 9) (v := .int (zI (m o 9))) hX rfl zfl_RX1_45 (zCat_lt ho) (zCat_e (ca := ca) (f := m o) ho) rfl dX1_around_14 ?_
    refine z_isub (pc := 17) hX dX1_around_17 ?_
    exact z_iret (pc := 18) hX rfl rfl (Option.some.inj h) rfl dX1_around_18
  · replace h := (if_pos hc1).symm.trans h
    refine z_iload_n (pc := 8) hX 1 dX1_around_8 rfl rfl ?_
    refine z_goto (pc := 9) (tgt := 18) hX dX1_around_9 (by decide) ?_
    exact z_iret (pc := 18) hX rfl rfl (Option.some.inj h) rfl dX1_around_18
def rmX1_evenNodes : Room := { frames := 0, cells := 0, slots := 0, locals := 0 }
set_option maxRecDepth 20000 in
set_option maxHeartbeats 4000000 in
theorem wX1_evenNodes_L4 {X : zXT} {l : Launch} {D : va_G} {ca : Nat → ClassId} {ad : Nat → Nat} (hG : zGok (zGC D ca ad)) {o : Nat} (ho : zCat o)  {r0 : Int} {m : zM}  (hX : zC X l rmX1_evenNodes (zGC D ca ad) (some (.int (zI r0))) m cX1_evenNodes 3 RX1 (some .int)) {k : Int → Int → Option (Int)} (hk : ∀ (v1 : Int) (v2 : Int), k v1 v2 = some r0 → zV X 3 m 32 [(0, .ref (ad o)), (1, .int (zI v1)), (2, .int (zI v2))] []) : ∀ (n : Nat) (v1 : Int) (v2 : Int), FX1_evenNodes_L4 o m k n v1 v2 = some r0 → zV X 3 m 4 [(0, .ref (ad o)), (1, .int (zI v1)), (2, .int (zI v2))] [] := by
  intro n
  induction n with
  | zero => intro v1 v2 h; cases h
  | succ n ih =>
    intro v1 v2 h
    replace h : FX1_evenNodes_L4_B o m k (FX1_evenNodes_L4 o m k n) v1 v2 = some r0 := h
    unfold FX1_evenNodes_L4_B at h
    refine z_iload_n (pc := 4) hX 2 dX1_evenNodes_4 rfl rfl ?_
    refine z_aload_n (pc := 5) hX 0 dX1_evenNodes_5 rfl rfl ?_
    refine z_get (pc := 6) (c := o) (j := 10) (v := .int (zI (m o 10))) hX rfl zfl_RX1_59 (zCat_lt ho) (zCat_e (ca := ca) (f := m o) ho) rfl dX1_evenNodes_6 ?_
    refine z_icmp_ge (pc := 9) (tgt := 32) hX dX1_evenNodes_9 (by decide) (fun hc4 => ?_) (fun hc4 => ?_)
    · replace h := (if_neg hc4).symm.trans h
      exact hk _ _ h
    · replace h := (if_pos hc4).symm.trans h
      refine z_aload_n (pc := 12) hX 0 dX1_evenNodes_12 rfl rfl ?_
      refine z_get (pc := 13) (c := o) (j := 2) (v := .ref (ad (o + 3))) hX rfl zfl_RX1_18 (zCat_lt ho) (zCat_e (ca := ca) (f := m o) ho) rfl dX1_evenNodes_13 ?_
      refine z_iload_n (pc := 16) hX 2 dX1_evenNodes_16 rfl rfl ?_
      obtain ⟨x1, hx1, hi1, h⟩ := zrd_s h
      refine z_iald (pc := 17) (c := (o + 3)) hX (zCat_a3 ho) hi1 hx1 dX1_evenNodes_17 ?_
      refine z_iconst (pc := 18) hX dX1_evenNodes_18 ?_
      obtain ⟨g2, h⟩ := zgd_s h
      refine z_irem (pc := 19) hX g2 dX1_evenNodes_19 ?_
      refine z_if_ne (pc := 20) (tgt := 26) hX dX1_evenNodes_20 (by decide) (fun hc3 => ?_) (fun hc3 => ?_)
      · replace h := (if_neg hc3).symm.trans h
        refine z_iinc (pc := 26) (lv' := [(2, .int (zI (v2 + 1))), (0, .ref (ad o)), (1, .int (zI v1))]) hX 2 dX1_evenNodes_26 rfl (by decide) rfl ?_
        refine z_goto (pc := 29) (tgt := 4) hX dX1_evenNodes_29 (by decide) ?_
        refine z_sub [1, 2, 0] rfl ?_
        exact ih _ _ h
      · replace h := (if_pos hc3).symm.trans h
        refine z_iinc (pc := 23) (lv' := [(1, .int (zI (v1 + 1))), (0, .ref (ad o)), (2, .int (zI v2))]) hX 1 dX1_evenNodes_23 rfl (by decide) rfl ?_
        refine z_iinc (pc := 26) (lv' := [(2, .int (zI (v2 + 1))), (1, .int (zI (v1 + 1))), (0, .ref (ad o))]) hX 2 dX1_evenNodes_26 rfl (by decide) rfl ?_
        refine z_goto (pc := 29) (tgt := 4) hX dX1_evenNodes_29 (by decide) ?_
        refine z_sub [2, 1, 0] rfl ?_
        exact ih _ _ h
set_option maxRecDepth 20000 in
set_option maxHeartbeats 4000000 in
theorem wX1_evenNodes {l : Launch} {D : va_G} {ca : Nat → ClassId} {ad : Nat → Nat} (hG : zGok (zGC D ca ad)) {o : Nat} (ho : zCat o) {r0 : Int} {m : zM} (h : FX1_evenNodes o m = some r0) : zCt l (zGC D ca ad) yX1_evenNodes cX1_evenNodes 3 (some .int) rmX1_evenNodes [.ref (ad o)] m (some (.int (zI r0))) m := by
  unfold FX1_evenNodes at h
  refine z_of (plainFor_of_name (by decide +kernel)) hG (Nat.le_of_ble_eq_true rfl) (fun X hX => ?_)
  show zV X 3 m 0 [(0, .ref (ad o))] []
  refine z_iconst (pc := 0) hX dX1_evenNodes_0 ?_
  refine z_istore_n (pc := 1) (lv' := [(1, .int (zI 0)), (0, .ref (ad o))]) hX dX1_evenNodes_1 rfl (by decide) rfl ?_
  refine z_iconst (pc := 2) hX dX1_evenNodes_2 ?_
  refine z_istore_n (pc := 3) (lv' := [(2, .int (zI 0)), (1, .int (zI 0)), (0, .ref (ad o))]) hX dX1_evenNodes_3 rfl (by decide) rfl ?_
  refine z_sub [2, 1, 0] rfl ?_
  refine wX1_evenNodes_L4 hG ho hX (fun y4_1 y4_2 h => ?_) _ _ _ h
  refine z_iload_n (pc := 32) hX 1 dX1_evenNodes_32 rfl rfl ?_
  exact z_iret (pc := 33) hX rfl rfl (Option.some.inj h) rfl dX1_evenNodes_33
def rmX1_firstPlace : Room := { frames := 0, cells := 0, slots := 0, locals := 0 }
set_option maxRecDepth 20000 in
set_option maxHeartbeats 4000000 in
theorem wX1_firstPlace {l : Launch} {D : va_G} {ca : Nat → ClassId} {ad : Nat → Nat} (hG : zGok (zGC D ca ad)) {o : Nat} (ho : zCat o) {a1 : Int} {r0 : Int} {m : zM} (h : FX1_firstPlace o a1 m = some r0) : zCt l (zGC D ca ad) yX1_firstPlace cX1_firstPlace 2 (some .int) rmX1_firstPlace [.ref (ad o), .int (zI a1)] m (some (.int (zI r0))) m := by
  unfold FX1_firstPlace at h
  refine z_of (plainFor_of_name (by decide +kernel)) hG (Nat.le_of_ble_eq_true rfl) (fun X hX => ?_)
  show zV X 2 m 0 [(0, .ref (ad o)), (1, .int (zI a1))] []
  refine z_aload_n (pc := 0) hX 0 dX1_firstPlace_0 rfl rfl ?_
  refine z_get (pc := 1) (c := o) (j := 6) (v := .ref (ad (o + 7))) hX rfl zfl_RX1_30 (zCat_lt ho) (zCat_e (ca := ca) (f := m o) ho) rfl dX1_firstPlace_1 ?_
  refine z_iload_n (pc := 4) hX 1 dX1_firstPlace_4 rfl rfl ?_
  obtain ⟨x1, hx1, hi1, h⟩ := zrd_s h
  refine z_iald (pc := 5) (c := (o + 7)) hX (zCat_a7 ho) hi1 hx1 dX1_firstPlace_5 ?_
  refine z_aload_n (pc := 6) hX 0 dX1_firstPlace_6 rfl rfl ?_
  refine z_get (pc := 7) (c := o) (j := 2) (v := .ref (ad (o + 3))) hX rfl zfl_RX1_18 (zCat_lt ho) (zCat_e (ca := ca) (f := m o) ho) rfl dX1_firstPlace_7 ?_
  refine z_iload_n (pc := 10) hX 1 dX1_firstPlace_10 rfl rfl ?_
  obtain ⟨x2, hx2, hi2, h⟩ := zrd_s h
  refine z_iald (pc := 11) (c := (o + 3)) hX (zCat_a3 ho) hi2 hx2 dX1_firstPlace_11 ?_
  refine z_isub (pc := 12) hX dX1_firstPlace_12 ?_
  refine z_iconst (pc := 13) hX dX1_firstPlace_13 ?_
  refine z_iadd (pc := 14) hX dX1_firstPlace_14 ?_
  exact z_iret (pc := 15) hX rfl rfl (Option.some.inj h) rfl dX1_firstPlace_15
def rmX1_isMirrorTurned : Room := { frames := 1, cells := 0, slots := 0, locals := 21 }
set_option maxRecDepth 20000 in
set_option maxHeartbeats 4000000 in
theorem wX1_isMirrorTurned_L2 {X : zXT} {l : Launch} {D : va_G} {ca : Nat → ClassId} {ad : Nat → Nat} (hG : zGok (zGC D ca ad)) {o : Nat} (ho : zCat o) {a1 : Int}  {r0 : Int} {m : zM}  (hX : zC X l rmX1_isMirrorTurned (zGC D ca ad) (some (.int (zI r0))) m cX1_isMirrorTurned 3 RX1 (some .boolean)) {k : Int → Option (Int)} (hk : ∀ (v2 : Int), k v2 = some r0 → zV X 3 m 54 [(0, .ref (ad o)), (1, .int (zI a1)), (2, .int (zI v2))] []) : ∀ (n : Nat) (v2 : Int), FX1_isMirrorTurned_L2 o a1 m k n v2 = some r0 → zV X 3 m 2 [(0, .ref (ad o)), (1, .int (zI a1)), (2, .int (zI v2))] [] := by
  intro n
  induction n with
  | zero => intro v2 h; cases h
  | succ n ih =>
    intro v2 h
    replace h : FX1_isMirrorTurned_L2_B o a1 m k (FX1_isMirrorTurned_L2 o a1 m k n) v2 = some r0 := h
    unfold FX1_isMirrorTurned_L2_B at h
    refine z_iload_n (pc := 2) hX 2 dX1_isMirrorTurned_2 rfl rfl ?_
    refine z_aload_n (pc := 3) hX 0 dX1_isMirrorTurned_3 rfl rfl ?_
    refine z_get (pc := 4) (c := o) (j := 9) (v := .int (zI (m o 9))) hX rfl zfl_RX1_45 (zCat_lt ho) (zCat_e (ca := ca) (f := m o) ho) rfl dX1_isMirrorTurned_4 ?_
    refine z_iconst (pc := 7) hX dX1_isMirrorTurned_7 ?_
    obtain ⟨g1, h⟩ := zgd_s h
    refine z_idiv (pc := 8) hX g1 dX1_isMirrorTurned_8 ?_
    refine z_icmp_ge (pc := 9) (tgt := 54) hX dX1_isMirrorTurned_9 (by decide) (fun hc7 => ?_) (fun hc7 => ?_)
    · replace h := (if_neg hc7).symm.trans h
      exact hk _ h
    · replace h := (if_pos hc7).symm.trans h
      refine z_aload_n (pc := 12) hX 0 dX1_isMirrorTurned_12 rfl rfl ?_
      refine z_get (pc := 13) (c := o) (j := 0) (v := .ref (ad (o + 1))) hX rfl zfl_RX1_9 (zCat_lt ho) (zCat_e (ca := ca) (f := m o) ho) rfl dX1_isMirrorTurned_13 ?_
      refine z_aload_n (pc := 16) hX 0 dX1_isMirrorTurned_16 rfl rfl ?_
      refine z_iload_n (pc := 17) hX 1 dX1_isMirrorTurned_17 rfl rfl ?_
      refine z_iload_n (pc := 18) hX 2 dX1_isMirrorTurned_18 rfl rfl ?_
      refine z_iadd (pc := 19) hX dX1_isMirrorTurned_19 ?_
      obtain ⟨r2, hr2, h⟩ := zcl_s h
      refine z_callVr (pc := 20) (c := o) hX [.int (zI (a1 + v2))] [.ref (ad (o + 1))] (wX1_around (ca := ca) hG ho hr2) rfl zmv_RX1_83 (zCat_lt ho) (zCat_e (ca := ca) (f := m o) ho) rfl rfl ⟨rfl, rfl⟩ ⟨by decide, by decide⟩ (Nat.le_of_ble_eq_true rfl) dX1_isMirrorTurned_20 ?_
      obtain ⟨x3, hx3, hi3, h⟩ := zrd_s h
      refine z_iald (pc := 23) (c := (o + 1)) hX (zCat_a1 ho) hi3 hx3 dX1_isMirrorTurned_23 ?_
      refine z_aload_n (pc := 24) hX 0 dX1_isMirrorTurned_24 rfl rfl ?_
      refine z_get (pc := 25) (c := o) (j := 0) (v := .ref (ad (o + 1))) hX rfl zfl_RX1_9 (zCat_lt ho) (zCat_e (ca := ca) (f := m o) ho) rfl dX1_isMirrorTurned_25 ?_
      refine z_aload_n (pc := 28) hX 0 dX1_isMirrorTurned_28 rfl rfl ?_
      refine z_iload_n (pc := 29) hX 1 dX1_isMirrorTurned_29 rfl rfl ?_
      refine z_aload_n (pc := 30) hX 0 dX1_isMirrorTurned_30 rfl rfl ?_
      refine z_get (pc := 31) (c := o) (j := 9) (v := .int (zI (m o 9))) hX rfl zfl_RX1_45 (zCat_lt ho) (zCat_e (ca := ca) (f := m o) ho) rfl dX1_isMirrorTurned_31 ?_
      refine z_iadd (pc := 34) hX dX1_isMirrorTurned_34 ?_
      refine z_iconst (pc := 35) hX dX1_isMirrorTurned_35 ?_
      refine z_isub (pc := 36) hX dX1_isMirrorTurned_36 ?_
      refine z_iload_n (pc := 37) hX 2 dX1_isMirrorTurned_37 rfl rfl ?_
      refine z_isub (pc := 38) hX dX1_isMirrorTurned_38 ?_
      obtain ⟨r4, hr4, h⟩ := zcl_s h
      refine z_callVr (pc := 39) (c := o) hX [.int (zI (((a1 + (m o 9)) - 1) - v2))] [.ref (ad (o + 1)), .int (zI x3)] (wX1_around (ca := ca) hG ho hr4) rfl zmv_RX1_83 (zCat_lt ho) (zCat_e (ca := ca) (f := m o) ho) rfl rfl ⟨rfl, rfl⟩ ⟨by decide, by decide⟩ (Nat.le_of_ble_eq_true rfl) dX1_isMirrorTurned_39 ?_
      obtain ⟨x5, hx5, hi5, h⟩ := zrd_s h
      refine z_iald (pc := 42) (c := (o + 1)) hX (zCat_a1 ho) hi5 hx5 dX1_isMirrorTurned_42 ?_
      refine z_icmp_eq (pc := 43) (tgt := 48) hX dX1_isMirrorTurned_43 (by decide) (fun hc6 => ?_) (fun hc6 => ?_)
      · replace h := (if_pos hc6).symm.trans h
        refine z_iinc (pc := 48) (lv' := [(2, .int (zI (v2 + 1))), (0, .ref (ad o)), (1, .int (zI a1))]) hX 2 dX1_isMirrorTurned_48 rfl (by decide) rfl ?_
        refine z_goto (pc := 51) (tgt := 2) hX dX1_isMirrorTurned_51 (by decide) ?_
        refine z_sub [1, 2, 0] rfl ?_
        exact ih _ h
      · replace h := (if_neg hc6).symm.trans h
        refine z_iconst (pc := 46) hX dX1_isMirrorTurned_46 ?_
        exact z_zret (pc := 47) hX rfl rfl (Or.inl rfl) (Option.some.inj h) rfl dX1_isMirrorTurned_47
set_option maxRecDepth 20000 in
set_option maxHeartbeats 4000000 in
theorem wX1_isMirrorTurned {l : Launch} {D : va_G} {ca : Nat → ClassId} {ad : Nat → Nat} (hG : zGok (zGC D ca ad)) {o : Nat} (ho : zCat o) {a1 : Int} {r0 : Int} {m : zM} (h : FX1_isMirrorTurned o a1 m = some r0) : zCt l (zGC D ca ad) yX1_isMirrorTurned cX1_isMirrorTurned 3 (some .boolean) rmX1_isMirrorTurned [.ref (ad o), .int (zI a1)] m (some (.int (zI r0))) m := by
  unfold FX1_isMirrorTurned at h
  refine z_of (plainFor_of_name (by decide +kernel)) hG (Nat.le_of_ble_eq_true rfl) (fun X hX => ?_)
  show zV X 3 m 0 [(0, .ref (ad o)), (1, .int (zI a1))] []
  refine z_iconst (pc := 0) hX dX1_isMirrorTurned_0 ?_
  refine z_istore_n (pc := 1) (lv' := [(2, .int (zI 0)), (0, .ref (ad o)), (1, .int (zI a1))]) hX dX1_isMirrorTurned_1 rfl (by decide) rfl ?_
  refine z_sub [1, 2, 0] rfl ?_
  refine wX1_isMirrorTurned_L2 hG ho hX (fun y2_2 h => ?_) _ _ h
  refine z_iconst (pc := 54) hX dX1_isMirrorTurned_54 ?_
  exact z_zret (pc := 55) hX rfl rfl (Or.inr rfl) (Option.some.inj h) rfl dX1_isMirrorTurned_55
def rmX1_lastLetter : Room := { frames := 0, cells := 0, slots := 0, locals := 0 }
set_option maxRecDepth 20000 in
set_option maxHeartbeats 4000000 in
theorem wX1_lastLetter {l : Launch} {D : va_G} {ca : Nat → ClassId} {ad : Nat → Nat} (hG : zGok (zGC D ca ad)) {o : Nat} (ho : zCat o) {r0 : Int} {m : zM} (h : FX1_lastLetter o m = some r0) : zCt l (zGC D ca ad) yX1_lastLetter cX1_lastLetter 1 (some .int) rmX1_lastLetter [.ref (ad o)] m (some (.int (zI r0))) m := by
  unfold FX1_lastLetter at h
  refine z_of (plainFor_of_name (by decide +kernel)) hG (Nat.le_of_ble_eq_true rfl) (fun X hX => ?_)
  show zV X 1 m 0 [(0, .ref (ad o))] []
  refine z_aload_n (pc := 0) hX 0 dX1_lastLetter_0 rfl rfl ?_
  refine z_get (pc := 1) (c := o) (j := 9) (v := .int (zI (m o 9))) hX rfl zfl_RX1_45 (zCat_lt ho) (zCat_e (ca := ca) (f := m o) ho) rfl dX1_lastLetter_1 ?_
  refine z_if_ne (pc := 4) (tgt := 11) hX dX1_lastLetter_4 (by decide) (fun hc2 => ?_) (fun hc2 => ?_)
  · replace h := (if_neg hc2).symm.trans h
    refine z_aload_n (pc := 11) hX 0 dX1_lastLetter_11 rfl rfl ?_
    refine z_get (pc := 12) (c := o) (j := 0) (v := .ref (ad (o + 1))) hX rfl zfl_RX1_9 (zCat_lt ho) (zCat_e (ca := ca) (f := m o) ho) rfl dX1_lastLetter_12 ?_
    refine z_aload_n (pc := 15) hX 0 dX1_lastLetter_15 rfl rfl ?_
    refine z_get (pc := 16) (c := o) (j := 9) (v := .int (zI (m o 9))) hX rfl zfl_RX1_45 (zCat_lt ho) (zCat_e (ca := ca) (f := m o) ho) rfl dX1_lastLetter_16 ?_
    refine z_iconst (pc := 19) hX dX1_lastLetter_19 ?_
    refine z_isub (pc := 20) hX dX1_lastLetter_20 ?_
    obtain ⟨x1, hx1, hi1, h⟩ := zrd_s h
    refine z_iald (pc := 21) (c := (o + 1)) hX (zCat_a1 ho) hi1 hx1 dX1_lastLetter_21 ?_
    exact z_iret (pc := 22) hX rfl rfl (Option.some.inj h) rfl dX1_lastLetter_22
  · replace h := (if_pos hc2).symm.trans h
    refine z_iconst (pc := 7) hX dX1_lastLetter_7 ?_
    refine z_goto (pc := 8) (tgt := 22) hX dX1_lastLetter_8 (by decide) ?_
    exact z_iret (pc := 22) hX rfl rfl (Option.some.inj h) rfl dX1_lastLetter_22
def rmX1_standsAt : Room := { frames := 0, cells := 0, slots := 0, locals := 0 }
set_option maxRecDepth 20000 in
set_option maxHeartbeats 4000000 in
theorem wX1_standsAt_L3 {X : zXT} {l : Launch} {D : va_G} {ca : Nat → ClassId} {ad : Nat → Nat} (hG : zGok (zGC D ca ad)) {o : Nat} (ho : zCat o) {a1 : Int} {c2 n2 : Nat} (h2 : zInts (zGC D ca ad) c2 n2) {a3 : Int} {a4 : Int}  {r0 : Int} {m : zM}  (hX : zC X l rmX1_standsAt (zGC D ca ad) (some (.int (zI r0))) m cX1_standsAt 6 RX1 (some .boolean)) {k : Int → Option (Int)} (hk : ∀ (v5 : Int), k v5 = some r0 → zV X 6 m 36 [(0, .ref (ad o)), (1, .int (zI a1)), (2, .ref (ad c2)), (3, .int (zI a3)), (4, .int (zI a4)), (5, .int (zI v5))] []) : ∀ (n : Nat) (v5 : Int), FX1_standsAt_L3 o a1 c2 n2 a3 a4 m k n v5 = some r0 → zV X 6 m 3 [(0, .ref (ad o)), (1, .int (zI a1)), (2, .ref (ad c2)), (3, .int (zI a3)), (4, .int (zI a4)), (5, .int (zI v5))] [] := by
  intro n
  induction n with
  | zero => intro v5 h; cases h
  | succ n ih =>
    intro v5 h
    replace h : FX1_standsAt_L3_B o a1 c2 n2 a3 a4 m k (FX1_standsAt_L3 o a1 c2 n2 a3 a4 m k n) v5 = some r0 := h
    unfold FX1_standsAt_L3_B at h
    refine z_iload (pc := 3) hX 5 dX1_standsAt_3 rfl ?_
    refine z_iload (pc := 5) hX 4 dX1_standsAt_5 rfl ?_
    refine z_icmp_ge (pc := 7) (tgt := 36) hX dX1_standsAt_7 (by decide) (fun hc4 => ?_) (fun hc4 => ?_)
    · replace h := (if_neg hc4).symm.trans h
      exact hk _ h
    · replace h := (if_pos hc4).symm.trans h
      refine z_aload_n (pc := 10) hX 0 dX1_standsAt_10 rfl rfl ?_
      refine z_get (pc := 11) (c := o) (j := 0) (v := .ref (ad (o + 1))) hX rfl zfl_RX1_9 (zCat_lt ho) (zCat_e (ca := ca) (f := m o) ho) rfl dX1_standsAt_11 ?_
      refine z_iload_n (pc := 14) hX 1 dX1_standsAt_14 rfl rfl ?_
      refine z_iload (pc := 15) hX 5 dX1_standsAt_15 rfl ?_
      refine z_iadd (pc := 17) hX dX1_standsAt_17 ?_
      obtain ⟨x1, hx1, hi1, h⟩ := zrd_s h
      refine z_iald (pc := 18) (c := (o + 1)) hX (zCat_a1 ho) hi1 hx1 dX1_standsAt_18 ?_
      refine z_aload_n (pc := 19) hX 2 dX1_standsAt_19 rfl rfl ?_
      refine z_iload_n (pc := 20) hX 3 dX1_standsAt_20 rfl rfl ?_
      refine z_iload (pc := 21) hX 5 dX1_standsAt_21 rfl ?_
      refine z_iadd (pc := 23) hX dX1_standsAt_23 ?_
      obtain ⟨x2, hx2, hi2, h⟩ := zrd_s h
      refine z_iald (pc := 24) (c := c2) hX h2 hi2 hx2 dX1_standsAt_24 ?_
      refine z_icmp_eq (pc := 25) (tgt := 30) hX dX1_standsAt_25 (by decide) (fun hc3 => ?_) (fun hc3 => ?_)
      · replace h := (if_pos hc3).symm.trans h
        refine z_iinc (pc := 30) (lv' := [(5, .int (zI (v5 + 1))), (0, .ref (ad o)), (1, .int (zI a1)), (2, .ref (ad c2)), (3, .int (zI a3)), (4, .int (zI a4))]) hX 5 dX1_standsAt_30 rfl (by decide) rfl ?_
        refine z_goto (pc := 33) (tgt := 3) hX dX1_standsAt_33 (by decide) ?_
        refine z_sub [1, 2, 3, 4, 5, 0] rfl ?_
        exact ih _ h
      · replace h := (if_neg hc3).symm.trans h
        refine z_iconst (pc := 28) hX dX1_standsAt_28 ?_
        exact z_zret (pc := 29) hX rfl rfl (Or.inl rfl) (Option.some.inj h) rfl dX1_standsAt_29
set_option maxRecDepth 20000 in
set_option maxHeartbeats 4000000 in
theorem wX1_standsAt {l : Launch} {D : va_G} {ca : Nat → ClassId} {ad : Nat → Nat} (hG : zGok (zGC D ca ad)) {o : Nat} (ho : zCat o) {a1 : Int} {c2 n2 : Nat} (h2 : zInts (zGC D ca ad) c2 n2) {a3 : Int} {a4 : Int} {r0 : Int} {m : zM} (h : FX1_standsAt o a1 c2 n2 a3 a4 m = some r0) : zCt l (zGC D ca ad) yX1_standsAt cX1_standsAt 6 (some .boolean) rmX1_standsAt [.ref (ad o), .int (zI a1), .ref (ad c2), .int (zI a3), .int (zI a4)] m (some (.int (zI r0))) m := by
  unfold FX1_standsAt at h
  refine z_of (plainFor_of_name (by decide +kernel)) hG (Nat.le_of_ble_eq_true rfl) (fun X hX => ?_)
  show zV X 6 m 0 [(0, .ref (ad o)), (1, .int (zI a1)), (2, .ref (ad c2)), (3, .int (zI a3)), (4, .int (zI a4))] []
  refine z_iconst (pc := 0) hX dX1_standsAt_0 ?_
  refine z_istore (pc := 1) (lv' := [(5, .int (zI 0)), (0, .ref (ad o)), (1, .int (zI a1)), (2, .ref (ad c2)), (3, .int (zI a3)), (4, .int (zI a4))]) hX dX1_standsAt_1 (by decide) rfl ?_
  refine z_sub [1, 2, 3, 4, 5, 0] rfl ?_
  refine wX1_standsAt_L3 hG ho h2 hX (fun y3_5 h => ?_) _ _ h
  refine z_iconst (pc := 36) hX dX1_standsAt_36 ?_
  exact z_zret (pc := 37) hX rfl rfl (Or.inr rfl) (Option.some.inj h) rfl dX1_standsAt_37
def rmX1_lastPlace : Room := { frames := 1, cells := 0, slots := 0, locals := 25 }
set_option maxRecDepth 20000 in
set_option maxHeartbeats 4000000 in
theorem wX1_lastPlace_L18 {X : zXT} {l : Launch} {D : va_G} {ca : Nat → ClassId} {ad : Nat → Nat} (hG : zGok (zGC D ca ad)) {o : Nat} (ho : zCat o) {a1 : Int}  {r0 : Int} {m : zM} {k2 : Int} (hX : zC X l rmX1_lastPlace (zGC D ca ad) (some (.int (zI r0))) m cX1_lastPlace 4 RX1 (some .int)) {k : Int → Option (Int)} (hk : ∀ (v3 : Int), k v3 = some r0 → zV X 4 m 50 [(0, .ref (ad o)), (1, .int (zI a1)), (2, .int (zI k2)), (3, .int (zI v3))] []) : ∀ (n : Nat) (v3 : Int), FX1_lastPlace_L18 o a1 k2 m k n v3 = some r0 → zV X 4 m 18 [(0, .ref (ad o)), (1, .int (zI a1)), (2, .int (zI k2)), (3, .int (zI v3))] [] := by
  intro n
  induction n with
  | zero => intro v3 h; cases h
  | succ n ih =>
    intro v3 h
    replace h : FX1_lastPlace_L18_B o a1 k2 m k (FX1_lastPlace_L18 o a1 k2 m k n) v3 = some r0 := h
    unfold FX1_lastPlace_L18_B at h
    refine z_iload_n (pc := 18) hX 3 dX1_lastPlace_18 rfl rfl ?_
    refine z_iload_n (pc := 19) hX 2 dX1_lastPlace_19 rfl rfl ?_
    refine z_icmp_le (pc := 20) (tgt := 50) hX dX1_lastPlace_20 (by decide) (fun hc6 => ?_) (fun hc6 => ?_)
    · replace h := (if_neg hc6).symm.trans h
      exact hk _ h
    · replace h := (if_pos hc6).symm.trans h
      refine z_aload_n (pc := 23) hX 0 dX1_lastPlace_23 rfl rfl ?_
      refine z_iload_n (pc := 24) hX 3 dX1_lastPlace_24 rfl rfl ?_
      refine z_aload_n (pc := 25) hX 0 dX1_lastPlace_25 rfl rfl ?_
      refine z_get (pc := 26) (c := o) (j := 0) (v := .ref (ad (o + 1))) hX rfl zfl_RX1_9 (zCat_lt ho) (zCat_e (ca := ca) (f := m o) ho) rfl dX1_lastPlace_26 ?_
      refine z_iload_n (pc := 29) hX 2 dX1_lastPlace_29 rfl rfl ?_
      refine z_aload_n (pc := 30) hX 0 dX1_lastPlace_30 rfl rfl ?_
      refine z_get (pc := 31) (c := o) (j := 2) (v := .ref (ad (o + 3))) hX rfl zfl_RX1_18 (zCat_lt ho) (zCat_e (ca := ca) (f := m o) ho) rfl dX1_lastPlace_31 ?_
      refine z_iload_n (pc := 34) hX 1 dX1_lastPlace_34 rfl rfl ?_
      obtain ⟨x3, hx3, hi3, h⟩ := zrd_s h
      refine z_iald (pc := 35) (c := (o + 3)) hX (zCat_a3 ho) hi3 hx3 dX1_lastPlace_35 ?_
      obtain ⟨r4, hr4, h⟩ := zcl_s h
      refine z_callVr (pc := 36) (c := o) hX [.int (zI v3), .ref (ad (o + 1)), .int (zI k2), .int (zI x3)] [] (wX1_standsAt (ca := ca) hG ho (zCat_a1 ho) hr4) rfl zmv_RX1_79 (zCat_lt ho) (zCat_e (ca := ca) (f := m o) ho) rfl rfl ⟨rfl, rfl⟩ ⟨by decide, by decide⟩ (Nat.le_of_ble_eq_true rfl) dX1_lastPlace_36 ?_
      refine z_if_eq (pc := 39) (tgt := 44) hX dX1_lastPlace_39 (by decide) (fun hc5 => ?_) (fun hc5 => ?_)
      · replace h := (if_pos hc5).symm.trans h
        refine z_iinc (pc := 44) (lv' := [(3, .int (zI (v3 + -1))), (0, .ref (ad o)), (1, .int (zI a1)), (2, .int (zI k2))]) hX 3 dX1_lastPlace_44 rfl (by decide) rfl ?_
        refine z_goto (pc := 47) (tgt := 18) hX dX1_lastPlace_47 (by decide) ?_
        refine z_sub [1, 2, 3, 0] rfl ?_
        exact ih _ h
      · replace h := (if_neg hc5).symm.trans h
        refine z_iload_n (pc := 42) hX 3 dX1_lastPlace_42 rfl rfl ?_
        exact z_iret (pc := 43) hX rfl rfl (Option.some.inj h) rfl dX1_lastPlace_43
set_option maxRecDepth 20000 in
set_option maxHeartbeats 4000000 in
theorem wX1_lastPlace {l : Launch} {D : va_G} {ca : Nat → ClassId} {ad : Nat → Nat} (hG : zGok (zGC D ca ad)) {o : Nat} (ho : zCat o) {a1 : Int} {r0 : Int} {m : zM} (h : FX1_lastPlace o a1 m = some r0) : zCt l (zGC D ca ad) yX1_lastPlace cX1_lastPlace 4 (some .int) rmX1_lastPlace [.ref (ad o), .int (zI a1)] m (some (.int (zI r0))) m := by
  unfold FX1_lastPlace at h
  refine z_of (plainFor_of_name (by decide +kernel)) hG (Nat.le_of_ble_eq_true rfl) (fun X hX => ?_)
  show zV X 4 m 0 [(0, .ref (ad o)), (1, .int (zI a1))] []
  refine z_aload_n (pc := 0) hX 0 dX1_lastPlace_0 rfl rfl ?_
  refine z_iload_n (pc := 1) hX 1 dX1_lastPlace_1 rfl rfl ?_
  obtain ⟨r1, hr1, h⟩ := zcl_s h
  refine z_callVr (pc := 2) (c := o) hX [.int (zI a1)] [] (wX1_firstPlace (ca := ca) hG ho hr1) rfl zmv_RX1_76 (zCat_lt ho) (zCat_e (ca := ca) (f := m o) ho) rfl rfl ⟨rfl, rfl⟩ ⟨by decide, by decide⟩ (Nat.le_of_ble_eq_true rfl) dX1_lastPlace_2 ?_
  refine z_istore_n (pc := 5) (lv' := [(2, .int (zI r1)), (0, .ref (ad o)), (1, .int (zI a1))]) hX dX1_lastPlace_5 rfl (by decide) rfl ?_
  refine z_aload_n (pc := 6) hX 1 dX1_lastPlace_6 rfl rfl ?_
  refine z_get (pc := 7) (c := o) (j := 9) (v := .int (zI (m o 9))) hX rfl zfl_RX1_45 (zCat_lt ho) (zCat_e (ca := ca) (f := m o) ho) rfl dX1_lastPlace_7 ?_
  refine z_aload_n (pc := 10) hX 1 dX1_lastPlace_10 rfl rfl ?_
  refine z_get (pc := 11) (c := o) (j := 2) (v := .ref (ad (o + 3))) hX rfl zfl_RX1_18 (zCat_lt ho) (zCat_e (ca := ca) (f := m o) ho) rfl dX1_lastPlace_11 ?_
  refine z_iload_n (pc := 14) hX 2 dX1_lastPlace_14 rfl rfl ?_
  obtain ⟨x2, hx2, hi2, h⟩ := zrd_s h
  refine z_iald (pc := 15) (c := (o + 3)) hX (zCat_a3 ho) hi2 hx2 dX1_lastPlace_15 ?_
  refine z_isub (pc := 16) hX dX1_lastPlace_16 ?_
  refine z_istore_n (pc := 17) (lv' := [(3, .int (zI ((m o 9) - x2))), (2, .int (zI r1)), (0, .ref (ad o)), (1, .int (zI a1))]) hX dX1_lastPlace_17 rfl (by decide) rfl ?_
  refine z_sub [2, 3, 1, 0] rfl ?_
  refine wX1_lastPlace_L18 hG ho hX (fun y18_3 h => ?_) _ _ h
  refine z_iload_n (pc := 50) hX 2 dX1_lastPlace_50 rfl rfl ?_
  exact z_iret (pc := 51) hX rfl rfl (Option.some.inj h) rfl dX1_lastPlace_51
def rmX1_lengthen : Room := { frames := 3, cells := 0, slots := 0, locals := 72 }
set_option maxRecDepth 20000 in
set_option maxHeartbeats 4000000 in
theorem wX1_lengthen_L2 {X : zXT} {l : Launch} {D : va_G} {ca : Nat → ClassId} {ad : Nat → Nat} (hG : zGok (zGC D ca ad)) {o : Nat} (ho : zCat o) {a1 : Int}  {m0 : zM}  (hX : zC X l rmX1_lengthen (zGC D ca ad) none m0 cX1_lengthen 3 RX1 none) {k : Int → zM → Option (zM)} (hk : ∀ (v2 : Int) (m_ : zM), k v2 m_ = some m0 → zV X 3 m_ 20 [(0, .ref (ad o)), (1, .int (zI a1)), (2, .int (zI v2))] []) : ∀ (n : Nat) (v2 : Int) (m_ : zM), FX1_lengthen_L2 o a1 k n v2 m_ = some m0 → zV X 3 m_ 2 [(0, .ref (ad o)), (1, .int (zI a1)), (2, .int (zI v2))] [] := by
  intro n
  induction n with
  | zero => intro v2 m_ h; cases h
  | succ n ih =>
    intro v2 m_ h
    replace h : FX1_lengthen_L2_B o a1 k (FX1_lengthen_L2 o a1 k n) v2 m_ = some m0 := h
    unfold FX1_lengthen_L2_B at h
    refine z_iload_n (pc := 2) hX 2 dX1_lengthen_2 rfl rfl ?_
    refine z_iload_n (pc := 3) hX 1 dX1_lengthen_3 rfl rfl ?_
    refine z_icmp_ge (pc := 4) (tgt := 20) hX dX1_lengthen_4 (by decide) (fun hc2 => ?_) (fun hc2 => ?_)
    · replace h := (if_neg hc2).symm.trans h
      exact hk _ _ h
    · replace h := (if_pos hc2).symm.trans h
      refine z_aload_n (pc := 7) hX 0 dX1_lengthen_7 rfl rfl ?_
      refine z_bipush (pc := 8) hX dX1_lengthen_8 (by decide +kernel) ?_
      obtain ⟨r1, m1, hr1, h⟩ := zcl2_s h
      refine z_callVr (pc := 10) (c := o) hX [.int (zI 97)] [] (wX1_add (ca := ca) hG ho hr1) rfl zmv_RX1_70 (zCat_lt ho) (zCat_e (ca := ca) (f := m_ o) ho) rfl rfl ⟨rfl, rfl⟩ ⟨by decide, by decide⟩ (Nat.le_of_ble_eq_true rfl) dX1_lengthen_10 ?_
      refine z_pop (pc := 13) hX dX1_lengthen_13 rfl ?_
      refine z_iinc (pc := 14) (lv' := [(2, .int (zI (v2 + 1))), (0, .ref (ad o)), (1, .int (zI a1))]) hX 2 dX1_lengthen_14 rfl (by decide) rfl ?_
      refine z_goto (pc := 17) (tgt := 2) hX dX1_lengthen_17 (by decide) ?_
      refine z_sub [1, 2, 0] rfl ?_
      exact ih _ _ h
set_option maxRecDepth 20000 in
set_option maxHeartbeats 4000000 in
theorem wX1_lengthen {l : Launch} {D : va_G} {ca : Nat → ClassId} {ad : Nat → Nat} (hG : zGok (zGC D ca ad)) {o : Nat} (ho : zCat o) {a1 : Int} {m0 : zM} {m : zM} (h : FX1_lengthen o a1 m = some m0) : zCt l (zGC D ca ad) yX1_lengthen cX1_lengthen 3 none rmX1_lengthen [.ref (ad o), .int (zI a1)] m none m0 := by
  unfold FX1_lengthen at h
  refine z_of (plainFor_of_name (by decide +kernel)) hG (Nat.le_of_ble_eq_true rfl) (fun X hX => ?_)
  show zV X 3 m 0 [(0, .ref (ad o)), (1, .int (zI a1))] []
  refine z_iconst (pc := 0) hX dX1_lengthen_0 ?_
  refine z_istore_n (pc := 1) (lv' := [(2, .int (zI 0)), (0, .ref (ad o)), (1, .int (zI a1))]) hX dX1_lengthen_1 rfl (by decide) rfl ?_
  refine z_sub [1, 2, 0] rfl ?_
  refine wX1_lengthen_L2 hG ho hX (fun y2_2 m2_ h => ?_) _ _ _ h
  exact z_vret (pc := 20) hX rfl rfl (Option.some.inj h) dX1_lengthen_20
def rmX1_load : Room := { frames := 3, cells := 0, slots := 0, locals := 72 }
set_option maxRecDepth 20000 in
set_option maxHeartbeats 4000000 in
theorem wX1_load_L8 {X : zXT} {l : Launch} {D : va_G} {ca : Nat → ClassId} {ad : Nat → Nat} (hG : zGok (zGC D ca ad)) {o : Nat} (ho : zCat o) {c1 n1 : Nat} (h1 : zInts (zGC D ca ad) c1 n1) {a2 : Int} {a3 : Int}  {m0 : zM}  (hX : zC X l rmX1_load (zGC D ca ad) none m0 cX1_load 5 RX1 none) {k : Int → zM → Option (zM)} (hk : ∀ (v4 : Int) (m_ : zM), k v4 m_ = some m0 → zV X 5 m_ 29 [(0, .ref (ad o)), (1, .ref (ad c1)), (3, .int (zI a3)), (4, .int (zI v4))] []) : ∀ (n : Nat) (v4 : Int) (m_ : zM), FX1_load_L8 o c1 n1 a2 a3 k n v4 m_ = some m0 → zV X 5 m_ 8 [(0, .ref (ad o)), (1, .ref (ad c1)), (3, .int (zI a3)), (4, .int (zI v4))] [] := by
  intro n
  induction n with
  | zero => intro v4 m_ h; cases h
  | succ n ih =>
    intro v4 m_ h
    replace h : FX1_load_L8_B o c1 n1 a2 a3 k (FX1_load_L8 o c1 n1 a2 a3 k n) v4 m_ = some m0 := h
    unfold FX1_load_L8_B at h
    refine z_iload (pc := 8) hX 3 dX1_load_8 rfl ?_
    refine z_iload_n (pc := 10) hX 2 dX1_load_10 rfl rfl ?_
    refine z_icmp_ge (pc := 11) (tgt := 29) hX dX1_load_11 (by decide) (fun hc4 => ?_) (fun hc4 => ?_)
    · replace h := (if_neg hc4).symm.trans h
      exact hk _ _ h
    · replace h := (if_pos hc4).symm.trans h
      refine z_aload_n (pc := 14) hX 0 dX1_load_14 rfl rfl ?_
      refine z_aload_n (pc := 15) hX 1 dX1_load_15 rfl rfl ?_
      refine z_iload (pc := 16) hX 3 dX1_load_16 rfl ?_
      obtain ⟨x2, hx2, hi2, h⟩ := zrd_s h
      refine z_iald (pc := 18) (c := c1) hX h1 hi2 hx2 dX1_load_18 ?_
      obtain ⟨r3, m3, hr3, h⟩ := zcl2_s h
      refine z_callVr (pc := 19) (c := o) hX [.int (zI x2)] [] (wX1_add (ca := ca) hG ho hr3) rfl zmv_RX1_70 (zCat_lt ho) (zCat_e (ca := ca) (f := m_ o) ho) rfl rfl ⟨rfl, rfl⟩ ⟨by decide, by decide⟩ (Nat.le_of_ble_eq_true rfl) dX1_load_19 ?_
      refine z_pop (pc := 22) hX dX1_load_22 rfl ?_
      refine z_iinc (pc := 23) (lv' := [(4, .int (zI (v4 + 1))), (0, .ref (ad o)), (1, .ref (ad c1)), (3, .int (zI a3))]) hX 3 dX1_load_23 rfl (by decide) rfl ?_
      refine z_goto (pc := 26) (tgt := 8) hX dX1_load_26 (by decide) ?_
      refine z_sub [1, 2, 3, 0] rfl ?_
      exact ih _ _ h
set_option maxRecDepth 20000 in
set_option maxHeartbeats 4000000 in
theorem wX1_load {l : Launch} {D : va_G} {ca : Nat → ClassId} {ad : Nat → Nat} (hG : zGok (zGC D ca ad)) {o : Nat} (ho : zCat o) {c1 n1 : Nat} (h1 : zInts (zGC D ca ad) c1 n1) {a2 : Int} {a3 : Int} {m0 : zM} {m : zM} (h : FX1_load o c1 n1 a2 a3 m = some m0) : zCt l (zGC D ca ad) yX1_load cX1_load 5 none rmX1_load [.ref (ad o), .ref (ad c1), .int (zI a2), .int (zI a3)] m none m0 := by
  unfold FX1_load at h
  refine z_of (plainFor_of_name (by decide +kernel)) hG (Nat.le_of_ble_eq_true rfl) (fun X hX => ?_)
  show zV X 5 m 0 [(0, .ref (ad o)), (1, .ref (ad c1)), (2, .int (zI a2)), (3, .int (zI a3))] []
  refine z_aload_n (pc := 0) hX 0 dX1_load_0 rfl rfl ?_
  refine z_iconst (pc := 1) hX dX1_load_1 ?_
  obtain ⟨m1, hr1, h⟩ := zcl_s h
  refine z_callVv (pc := 2) (v := .null) (c := o) hX [.int (zI 0)] [] (wX1_shorten (ca := ca) hG ho hr1) rfl zmv_RX1_66 (zCat_lt ho) (zCat_e (ca := ca) (f := m o) ho) rfl rfl ⟨rfl, rfl⟩ ⟨by decide, by decide⟩ (Nat.le_of_ble_eq_true rfl) dX1_load_2 ?_
  refine z_iload_n (pc := 5) hX 2 dX1_load_5 rfl rfl ?_
  refine z_istore (pc := 6) (lv' := [(4, .int (zI a2)), (0, .ref (ad o)), (1, .ref (ad c1)), (2, .int (zI a2)), (3, .int (zI a3))]) hX dX1_load_6 (by decide) rfl ?_
  refine z_sub [1, 2, 4, 0] rfl ?_
  refine wX1_load_L8 hG ho h1 hX (fun y8_4 m8_ h => ?_) _ _ _ h
  exact z_vret (pc := 29) hX rfl rfl (Option.some.inj h) dX1_load_29
def rmX1_longestNode : Room := { frames := 0, cells := 0, slots := 0, locals := 0 }
set_option maxRecDepth 20000 in
set_option maxHeartbeats 4000000 in
theorem wX1_longestNode_L4 {X : zXT} {l : Launch} {D : va_G} {ca : Nat → ClassId} {ad : Nat → Nat} (hG : zGok (zGC D ca ad)) {o : Nat} (ho : zCat o)  {r0 : Int} {m : zM}  (hX : zC X l rmX1_longestNode (zGC D ca ad) (some (.int (zI r0))) m cX1_longestNode 3 RX1 (some .int)) {k : Int → Int → Option (Int)} (hk : ∀ (v1 : Int) (v2 : Int), k v1 v2 = some r0 → zV X 3 m 40 [(0, .ref (ad o)), (1, .int (zI v1)), (2, .int (zI v2))] []) : ∀ (n : Nat) (v1 : Int) (v2 : Int), FX1_longestNode_L4 o m k n v1 v2 = some r0 → zV X 3 m 4 [(0, .ref (ad o)), (1, .int (zI v1)), (2, .int (zI v2))] [] := by
  intro n
  induction n with
  | zero => intro v1 v2 h; cases h
  | succ n ih =>
    intro v1 v2 h
    replace h : FX1_longestNode_L4_B o m k (FX1_longestNode_L4 o m k n) v1 v2 = some r0 := h
    unfold FX1_longestNode_L4_B at h
    refine z_iload_n (pc := 4) hX 2 dX1_longestNode_4 rfl rfl ?_
    refine z_aload_n (pc := 5) hX 0 dX1_longestNode_5 rfl rfl ?_
    refine z_get (pc := 6) (c := o) (j := 10) (v := .int (zI (m o 10))) hX rfl zfl_RX1_59 (zCat_lt ho) (zCat_e (ca := ca) (f := m o) ho) rfl dX1_longestNode_6 ?_
    refine z_icmp_ge (pc := 9) (tgt := 40) hX dX1_longestNode_9 (by decide) (fun hc5 => ?_) (fun hc5 => ?_)
    · replace h := (if_neg hc5).symm.trans h
      exact hk _ _ h
    · replace h := (if_pos hc5).symm.trans h
      refine z_iload_n (pc := 12) hX 1 dX1_longestNode_12 rfl rfl ?_
      refine z_iconst (pc := 13) hX dX1_longestNode_13 ?_
      refine z_icmp_eq (pc := 14) (tgt := 32) hX dX1_longestNode_14 (by decide) (fun hc4 => ?_) (fun hc4 => ?_)
      · replace h := (if_pos hc4).symm.trans h
        refine z_iload_n (pc := 32) hX 2 dX1_longestNode_32 rfl rfl ?_
        refine z_istore_n (pc := 33) (lv' := [(1, .int (zI v2)), (0, .ref (ad o)), (2, .int (zI v2))]) hX dX1_longestNode_33 rfl (by decide) rfl ?_
        refine z_iinc (pc := 34) (lv' := [(2, .int (zI (v2 + 1))), (1, .int (zI v2)), (0, .ref (ad o))]) hX 2 dX1_longestNode_34 rfl (by decide) rfl ?_
        refine z_goto (pc := 37) (tgt := 4) hX dX1_longestNode_37 (by decide) ?_
        refine z_sub [2, 1, 0] rfl ?_
        exact ih _ _ h
      · replace h := (if_neg hc4).symm.trans h
        refine z_aload_n (pc := 17) hX 0 dX1_longestNode_17 rfl rfl ?_
        refine z_get (pc := 18) (c := o) (j := 2) (v := .ref (ad (o + 3))) hX rfl zfl_RX1_18 (zCat_lt ho) (zCat_e (ca := ca) (f := m o) ho) rfl dX1_longestNode_18 ?_
        refine z_iload_n (pc := 21) hX 2 dX1_longestNode_21 rfl rfl ?_
        obtain ⟨x1, hx1, hi1, h⟩ := zrd_s h
        refine z_iald (pc := 22) (c := (o + 3)) hX (zCat_a3 ho) hi1 hx1 dX1_longestNode_22 ?_
        refine z_aload_n (pc := 23) hX 0 dX1_longestNode_23 rfl rfl ?_
        refine z_get (pc := 24) (c := o) (j := 2) (v := .ref (ad (o + 3))) hX rfl zfl_RX1_18 (zCat_lt ho) (zCat_e (ca := ca) (f := m o) ho) rfl dX1_longestNode_24 ?_
        refine z_iload_n (pc := 27) hX 1 dX1_longestNode_27 rfl rfl ?_
        obtain ⟨x2, hx2, hi2, h⟩ := zrd_s h
        refine z_iald (pc := 28) (c := (o + 3)) hX (zCat_a3 ho) hi2 hx2 dX1_longestNode_28 ?_
        refine z_icmp_le (pc := 29) (tgt := 34) hX dX1_longestNode_29 (by decide) (fun hc3 => ?_) (fun hc3 => ?_)
        · replace h := (if_neg hc3).symm.trans h
          refine z_iinc (pc := 34) (lv' := [(2, .int (zI (v2 + 1))), (0, .ref (ad o)), (1, .int (zI v1))]) hX 2 dX1_longestNode_34 rfl (by decide) rfl ?_
          refine z_goto (pc := 37) (tgt := 4) hX dX1_longestNode_37 (by decide) ?_
          refine z_sub [1, 2, 0] rfl ?_
          exact ih _ _ h
        · replace h := (if_pos hc3).symm.trans h
          refine z_iload_n (pc := 32) hX 2 dX1_longestNode_32 rfl rfl ?_
          refine z_istore_n (pc := 33) (lv' := [(1, .int (zI v2)), (0, .ref (ad o)), (2, .int (zI v2))]) hX dX1_longestNode_33 rfl (by decide) rfl ?_
          refine z_iinc (pc := 34) (lv' := [(2, .int (zI (v2 + 1))), (1, .int (zI v2)), (0, .ref (ad o))]) hX 2 dX1_longestNode_34 rfl (by decide) rfl ?_
          refine z_goto (pc := 37) (tgt := 4) hX dX1_longestNode_37 (by decide) ?_
          refine z_sub [2, 1, 0] rfl ?_
          exact ih _ _ h
set_option maxRecDepth 20000 in
set_option maxHeartbeats 4000000 in
theorem wX1_longestNode {l : Launch} {D : va_G} {ca : Nat → ClassId} {ad : Nat → Nat} (hG : zGok (zGC D ca ad)) {o : Nat} (ho : zCat o) {r0 : Int} {m : zM} (h : FX1_longestNode o m = some r0) : zCt l (zGC D ca ad) yX1_longestNode cX1_longestNode 3 (some .int) rmX1_longestNode [.ref (ad o)] m (some (.int (zI r0))) m := by
  unfold FX1_longestNode at h
  refine z_of (plainFor_of_name (by decide +kernel)) hG (Nat.le_of_ble_eq_true rfl) (fun X hX => ?_)
  show zV X 3 m 0 [(0, .ref (ad o))] []
  refine z_iconst (pc := 0) hX dX1_longestNode_0 ?_
  refine z_istore_n (pc := 1) (lv' := [(1, .int (zI (-1))), (0, .ref (ad o))]) hX dX1_longestNode_1 rfl (by decide) rfl ?_
  refine z_iconst (pc := 2) hX dX1_longestNode_2 ?_
  refine z_istore_n (pc := 3) (lv' := [(2, .int (zI 0)), (1, .int (zI (-1))), (0, .ref (ad o))]) hX dX1_longestNode_3 rfl (by decide) rfl ?_
  refine z_sub [2, 1, 0] rfl ?_
  refine wX1_longestNode_L4 hG ho hX (fun y4_1 y4_2 h => ?_) _ _ _ h
  refine z_iload_n (pc := 40) hX 1 dX1_longestNode_40 rfl rfl ?_
  exact z_iret (pc := 41) hX rfl rfl (Option.some.inj h) rfl dX1_longestNode_41
def rmX1_nodeOf : Room := { frames := 1, cells := 0, slots := 0, locals := 25 }
set_option maxRecDepth 20000 in
set_option maxHeartbeats 4000000 in
theorem wX1_nodeOf_L3 {X : zXT} {l : Launch} {D : va_G} {ca : Nat → ClassId} {ad : Nat → Nat} (hG : zGok (zGC D ca ad)) {o : Nat} (ho : zCat o) {c1 n1 : Nat} (h1 : zInts (zGC D ca ad) c1 n1) {a2 : Int} {a3 : Int}  {r0 : Int} {m : zM}  (hX : zC X l rmX1_nodeOf (zGC D ca ad) (some (.int (zI r0))) m cX1_nodeOf 5 RX1 (some .int)) {k : Int → Option (Int)} (hk : ∀ (v4 : Int), k v4 = some r0 → zV X 5 m 48 [(0, .ref (ad o)), (1, .ref (ad c1)), (2, .int (zI a2)), (3, .int (zI a3)), (4, .int (zI v4))] []) : ∀ (n : Nat) (v4 : Int), FX1_nodeOf_L3 o c1 n1 a2 a3 m k n v4 = some r0 → zV X 5 m 3 [(0, .ref (ad o)), (1, .ref (ad c1)), (2, .int (zI a2)), (3, .int (zI a3)), (4, .int (zI v4))] [] := by
  intro n
  induction n with
  | zero => intro v4 h; cases h
  | succ n ih =>
    intro v4 h
    replace h : FX1_nodeOf_L3_B o c1 n1 a2 a3 m k (FX1_nodeOf_L3 o c1 n1 a2 a3 m k n) v4 = some r0 := h
    unfold FX1_nodeOf_L3_B at h
    refine z_iload (pc := 3) hX 4 dX1_nodeOf_3 rfl ?_
    refine z_aload_n (pc := 5) hX 0 dX1_nodeOf_5 rfl rfl ?_
    refine z_get (pc := 6) (c := o) (j := 10) (v := .int (zI (m o 10))) hX rfl zfl_RX1_59 (zCat_lt ho) (zCat_e (ca := ca) (f := m o) ho) rfl dX1_nodeOf_6 ?_
    refine z_icmp_ge (pc := 9) (tgt := 48) hX dX1_nodeOf_9 (by decide) (fun hc6 => ?_) (fun hc6 => ?_)
    · replace h := (if_neg hc6).symm.trans h
      exact hk _ h
    · replace h := (if_pos hc6).symm.trans h
      refine z_aload_n (pc := 12) hX 0 dX1_nodeOf_12 rfl rfl ?_
      refine z_get (pc := 13) (c := o) (j := 2) (v := .ref (ad (o + 3))) hX rfl zfl_RX1_18 (zCat_lt ho) (zCat_e (ca := ca) (f := m o) ho) rfl dX1_nodeOf_13 ?_
      refine z_iload (pc := 16) hX 4 dX1_nodeOf_16 rfl ?_
      obtain ⟨x1, hx1, hi1, h⟩ := zrd_s h
      refine z_iald (pc := 18) (c := (o + 3)) hX (zCat_a3 ho) hi1 hx1 dX1_nodeOf_18 ?_
      refine z_iload_n (pc := 19) hX 3 dX1_nodeOf_19 rfl rfl ?_
      refine z_icmp_ne (pc := 20) (tgt := 42) hX dX1_nodeOf_20 (by decide) (fun hc5 => ?_) (fun hc5 => ?_)
      · replace h := (if_neg hc5).symm.trans h
        refine z_iinc (pc := 42) (lv' := [(4, .int (zI (v4 + 1))), (0, .ref (ad o)), (1, .ref (ad c1)), (2, .int (zI a2)), (3, .int (zI a3))]) hX 4 dX1_nodeOf_42 rfl (by decide) rfl ?_
        refine z_goto (pc := 45) (tgt := 3) hX dX1_nodeOf_45 (by decide) ?_
        refine z_sub [1, 2, 3, 4, 0] rfl ?_
        exact ih _ h
      · replace h := (if_pos hc5).symm.trans h
        refine z_aload_n (pc := 23) hX 0 dX1_nodeOf_23 rfl rfl ?_
        refine z_aload_n (pc := 24) hX 0 dX1_nodeOf_24 rfl rfl ?_
        refine z_iload (pc := 25) hX 4 dX1_nodeOf_25 rfl ?_
        obtain ⟨r2, hr2, h⟩ := zcl_s h
        refine z_callVr (pc := 27) (c := o) hX [.int (zI v4)] [.ref (ad o)] (wX1_firstPlace (ca := ca) hG ho hr2) rfl zmv_RX1_76 (zCat_lt ho) (zCat_e (ca := ca) (f := m o) ho) rfl rfl ⟨rfl, rfl⟩ ⟨by decide, by decide⟩ (Nat.le_of_ble_eq_true rfl) dX1_nodeOf_27 ?_
        refine z_aload_n (pc := 30) hX 1 dX1_nodeOf_30 rfl rfl ?_
        refine z_iload_n (pc := 31) hX 2 dX1_nodeOf_31 rfl rfl ?_
        refine z_iload_n (pc := 32) hX 3 dX1_nodeOf_32 rfl rfl ?_
        obtain ⟨r3, hr3, h⟩ := zcl_s h
        refine z_callVr (pc := 33) (c := o) hX [.int (zI r2), .ref (ad c1), .int (zI a2), .int (zI a3)] [] (wX1_standsAt (ca := ca) hG ho h1 hr3) rfl zmv_RX1_79 (zCat_lt ho) (zCat_e (ca := ca) (f := m o) ho) rfl rfl ⟨rfl, rfl⟩ ⟨by decide, by decide⟩ (Nat.le_of_ble_eq_true rfl) dX1_nodeOf_33 ?_
        refine z_if_eq (pc := 36) (tgt := 42) hX dX1_nodeOf_36 (by decide) (fun hc4 => ?_) (fun hc4 => ?_)
        · replace h := (if_pos hc4).symm.trans h
          refine z_iinc (pc := 42) (lv' := [(4, .int (zI (v4 + 1))), (0, .ref (ad o)), (1, .ref (ad c1)), (2, .int (zI a2)), (3, .int (zI a3))]) hX 4 dX1_nodeOf_42 rfl (by decide) rfl ?_
          refine z_goto (pc := 45) (tgt := 3) hX dX1_nodeOf_45 (by decide) ?_
          refine z_sub [1, 2, 3, 4, 0] rfl ?_
          exact ih _ h
        · replace h := (if_neg hc4).symm.trans h
          refine z_iload (pc := 39) hX 4 dX1_nodeOf_39 rfl ?_
          exact z_iret (pc := 41) hX rfl rfl (Option.some.inj h) rfl dX1_nodeOf_41
set_option maxRecDepth 20000 in
set_option maxHeartbeats 4000000 in
theorem wX1_nodeOf {l : Launch} {D : va_G} {ca : Nat → ClassId} {ad : Nat → Nat} (hG : zGok (zGC D ca ad)) {o : Nat} (ho : zCat o) {c1 n1 : Nat} (h1 : zInts (zGC D ca ad) c1 n1) {a2 : Int} {a3 : Int} {r0 : Int} {m : zM} (h : FX1_nodeOf o c1 n1 a2 a3 m = some r0) : zCt l (zGC D ca ad) yX1_nodeOf cX1_nodeOf 5 (some .int) rmX1_nodeOf [.ref (ad o), .ref (ad c1), .int (zI a2), .int (zI a3)] m (some (.int (zI r0))) m := by
  unfold FX1_nodeOf at h
  refine z_of (plainFor_of_name (by decide +kernel)) hG (Nat.le_of_ble_eq_true rfl) (fun X hX => ?_)
  show zV X 5 m 0 [(0, .ref (ad o)), (1, .ref (ad c1)), (2, .int (zI a2)), (3, .int (zI a3))] []
  refine z_iconst (pc := 0) hX dX1_nodeOf_0 ?_
  refine z_istore (pc := 1) (lv' := [(4, .int (zI 0)), (0, .ref (ad o)), (1, .ref (ad c1)), (2, .int (zI a2)), (3, .int (zI a3))]) hX dX1_nodeOf_1 (by decide) rfl ?_
  refine z_sub [1, 2, 3, 4, 0] rfl ?_
  refine wX1_nodeOf_L3 hG ho h1 hX (fun y3_4 h => ?_) _ _ h
  refine z_iconst (pc := 48) hX dX1_nodeOf_48 ?_
  exact z_iret (pc := 49) hX rfl rfl (Option.some.inj h) rfl dX1_nodeOf_49
def rmX1_places : Room := { frames := 1, cells := 0, slots := 0, locals := 25 }
set_option maxRecDepth 20000 in
set_option maxHeartbeats 4000000 in
theorem wX1_places_L6 {X : zXT} {l : Launch} {D : va_G} {ca : Nat → ClassId} {ad : Nat → Nat} (hG : zGok (zGC D ca ad)) {o : Nat} (ho : zCat o) {c1 n1 : Nat} (h1 : zInts (zGC D ca ad) c1 n1) {a2 : Int} {a3 : Int}  {r0 : Int} {m : zM}  (hX : zC X l rmX1_places (zGC D ca ad) (some (.int (zI r0))) m cX1_places 6 RX1 (some .int)) {k : Int → Int → Option (Int)} (hk : ∀ (v4 : Int) (v5 : Int), k v4 v5 = some r0 → zV X 6 m 38 [(0, .ref (ad o)), (1, .ref (ad c1)), (2, .int (zI a2)), (3, .int (zI a3)), (4, .int (zI v4)), (5, .int (zI v5))] []) : ∀ (n : Nat) (v4 : Int) (v5 : Int), FX1_places_L6 o c1 n1 a2 a3 m k n v4 v5 = some r0 → zV X 6 m 6 [(0, .ref (ad o)), (1, .ref (ad c1)), (2, .int (zI a2)), (3, .int (zI a3)), (4, .int (zI v4)), (5, .int (zI v5))] [] := by
  intro n
  induction n with
  | zero => intro v4 v5 h; cases h
  | succ n ih =>
    intro v4 v5 h
    replace h : FX1_places_L6_B o c1 n1 a2 a3 m k (FX1_places_L6 o c1 n1 a2 a3 m k n) v4 v5 = some r0 := h
    unfold FX1_places_L6_B at h
    refine z_iload (pc := 6) hX 5 dX1_places_6 rfl ?_
    refine z_iload_n (pc := 8) hX 3 dX1_places_8 rfl rfl ?_
    refine z_iadd (pc := 9) hX dX1_places_9 ?_
    refine z_aload_n (pc := 10) hX 0 dX1_places_10 rfl rfl ?_
    refine z_get (pc := 11) (c := o) (j := 9) (v := .int (zI (m o 9))) hX rfl zfl_RX1_45 (zCat_lt ho) (zCat_e (ca := ca) (f := m o) ho) rfl dX1_places_11 ?_
    refine z_icmp_gt (pc := 14) (tgt := 38) hX dX1_places_14 (by decide) (fun hc3 => ?_) (fun hc3 => ?_)
    · replace h := (if_pos hc3).symm.trans h
      exact hk _ _ h
    · replace h := (if_neg hc3).symm.trans h
      refine z_aload_n (pc := 17) hX 0 dX1_places_17 rfl rfl ?_
      refine z_iload (pc := 18) hX 5 dX1_places_18 rfl ?_
      refine z_aload_n (pc := 20) hX 1 dX1_places_20 rfl rfl ?_
      refine z_iload_n (pc := 21) hX 2 dX1_places_21 rfl rfl ?_
      refine z_iload_n (pc := 22) hX 3 dX1_places_22 rfl rfl ?_
      obtain ⟨r1, hr1, h⟩ := zcl_s h
      refine z_callVr (pc := 23) (c := o) hX [.int (zI v5), .ref (ad c1), .int (zI a2), .int (zI a3)] [] (wX1_standsAt (ca := ca) hG ho h1 hr1) rfl zmv_RX1_79 (zCat_lt ho) (zCat_e (ca := ca) (f := m o) ho) rfl rfl ⟨rfl, rfl⟩ ⟨by decide, by decide⟩ (Nat.le_of_ble_eq_true rfl) dX1_places_23 ?_
      refine z_if_eq (pc := 26) (tgt := 32) hX dX1_places_26 (by decide) (fun hc2 => ?_) (fun hc2 => ?_)
      · replace h := (if_pos hc2).symm.trans h
        refine z_iinc (pc := 32) (lv' := [(5, .int (zI (v5 + 1))), (0, .ref (ad o)), (1, .ref (ad c1)), (2, .int (zI a2)), (3, .int (zI a3)), (4, .int (zI v4))]) hX 5 dX1_places_32 rfl (by decide) rfl ?_
        refine z_goto (pc := 35) (tgt := 6) hX dX1_places_35 (by decide) ?_
        refine z_sub [1, 2, 3, 4, 5, 0] rfl ?_
        exact ih _ _ h
      · replace h := (if_neg hc2).symm.trans h
        refine z_iinc (pc := 29) (lv' := [(4, .int (zI (v4 + 1))), (0, .ref (ad o)), (1, .ref (ad c1)), (2, .int (zI a2)), (3, .int (zI a3)), (5, .int (zI v5))]) hX 4 dX1_places_29 rfl (by decide) rfl ?_
        refine z_iinc (pc := 32) (lv' := [(5, .int (zI (v5 + 1))), (4, .int (zI (v4 + 1))), (0, .ref (ad o)), (1, .ref (ad c1)), (2, .int (zI a2)), (3, .int (zI a3))]) hX 5 dX1_places_32 rfl (by decide) rfl ?_
        refine z_goto (pc := 35) (tgt := 6) hX dX1_places_35 (by decide) ?_
        refine z_sub [2, 3, 4, 5, 1, 0] rfl ?_
        exact ih _ _ h
set_option maxRecDepth 20000 in
set_option maxHeartbeats 4000000 in
theorem wX1_places {l : Launch} {D : va_G} {ca : Nat → ClassId} {ad : Nat → Nat} (hG : zGok (zGC D ca ad)) {o : Nat} (ho : zCat o) {c1 n1 : Nat} (h1 : zInts (zGC D ca ad) c1 n1) {a2 : Int} {a3 : Int} {r0 : Int} {m : zM} (h : FX1_places o c1 n1 a2 a3 m = some r0) : zCt l (zGC D ca ad) yX1_places cX1_places 6 (some .int) rmX1_places [.ref (ad o), .ref (ad c1), .int (zI a2), .int (zI a3)] m (some (.int (zI r0))) m := by
  unfold FX1_places at h
  refine z_of (plainFor_of_name (by decide +kernel)) hG (Nat.le_of_ble_eq_true rfl) (fun X hX => ?_)
  show zV X 6 m 0 [(0, .ref (ad o)), (1, .ref (ad c1)), (2, .int (zI a2)), (3, .int (zI a3))] []
  refine z_iconst (pc := 0) hX dX1_places_0 ?_
  refine z_istore (pc := 1) (lv' := [(4, .int (zI 0)), (0, .ref (ad o)), (1, .ref (ad c1)), (2, .int (zI a2)), (3, .int (zI a3))]) hX dX1_places_1 (by decide) rfl ?_
  refine z_iconst (pc := 3) hX dX1_places_3 ?_
  refine z_istore (pc := 4) (lv' := [(5, .int (zI 0)), (4, .int (zI 0)), (0, .ref (ad o)), (1, .ref (ad c1)), (2, .int (zI a2)), (3, .int (zI a3))]) hX dX1_places_4 (by decide) rfl ?_
  refine z_sub [2, 3, 4, 5, 1, 0] rfl ?_
  refine wX1_places_L6 hG ho h1 hX (fun y6_4 y6_5 h => ?_) _ _ _ h
  refine z_iload (pc := 38) hX 4 dX1_places_38 rfl ?_
  exact z_iret (pc := 40) hX rfl rfl (Option.some.inj h) rfl dX1_places_40
def rmX1_unlikePairs : Room := { frames := 0, cells := 0, slots := 0, locals := 0 }
set_option maxRecDepth 20000 in
set_option maxHeartbeats 4000000 in
theorem wX1_unlikePairs_L4 {X : zXT} {l : Launch} {D : va_G} {ca : Nat → ClassId} {ad : Nat → Nat} (hG : zGok (zGC D ca ad)) {o : Nat} (ho : zCat o)  {r0 : Int} {m : zM}  (hX : zC X l rmX1_unlikePairs (zGC D ca ad) (some (.int (zI r0))) m cX1_unlikePairs 3 RX1 (some .int)) {k : Int → Int → Option (Int)} (hk : ∀ (v1 : Int) (v2 : Int), k v1 v2 = some r0 → zV X 3 m 45 [(0, .ref (ad o)), (1, .int (zI v1)), (2, .int (zI v2))] []) : ∀ (n : Nat) (v1 : Int) (v2 : Int), FX1_unlikePairs_L4 o m k n v1 v2 = some r0 → zV X 3 m 4 [(0, .ref (ad o)), (1, .int (zI v1)), (2, .int (zI v2))] [] := by
  intro n
  induction n with
  | zero => intro v1 v2 h; cases h
  | succ n ih =>
    intro v1 v2 h
    replace h : FX1_unlikePairs_L4_B o m k (FX1_unlikePairs_L4 o m k n) v1 v2 = some r0 := h
    unfold FX1_unlikePairs_L4_B at h
    refine z_iload_n (pc := 4) hX 2 dX1_unlikePairs_4 rfl rfl ?_
    refine z_aload_n (pc := 5) hX 0 dX1_unlikePairs_5 rfl rfl ?_
    refine z_get (pc := 6) (c := o) (j := 9) (v := .int (zI (m o 9))) hX rfl zfl_RX1_45 (zCat_lt ho) (zCat_e (ca := ca) (f := m o) ho) rfl dX1_unlikePairs_6 ?_
    refine z_iconst (pc := 9) hX dX1_unlikePairs_9 ?_
    obtain ⟨g1, h⟩ := zgd_s h
    refine z_idiv (pc := 10) hX g1 dX1_unlikePairs_10 ?_
    refine z_icmp_ge (pc := 11) (tgt := 45) hX dX1_unlikePairs_11 (by decide) (fun hc5 => ?_) (fun hc5 => ?_)
    · replace h := (if_neg hc5).symm.trans h
      exact hk _ _ h
    · replace h := (if_pos hc5).symm.trans h
      refine z_aload_n (pc := 14) hX 0 dX1_unlikePairs_14 rfl rfl ?_
      refine z_get (pc := 15) (c := o) (j := 0) (v := .ref (ad (o + 1))) hX rfl zfl_RX1_9 (zCat_lt ho) (zCat_e (ca := ca) (f := m o) ho) rfl dX1_unlikePairs_15 ?_
      refine z_iload_n (pc := 18) hX 2 dX1_unlikePairs_18 rfl rfl ?_
      obtain ⟨x2, hx2, hi2, h⟩ := zrd_s h
      refine z_iald (pc := 19) (c := (o + 1)) hX (zCat_a1 ho) hi2 hx2 dX1_unlikePairs_19 ?_
      refine z_aload_n (pc := 20) hX 0 dX1_unlikePairs_20 rfl rfl ?_
      refine z_get (pc := 21) (c := o) (j := 0) (v := .ref (ad (o + 1))) hX rfl zfl_RX1_9 (zCat_lt ho) (zCat_e (ca := ca) (f := m o) ho) rfl dX1_unlikePairs_21 ?_
      refine z_aload_n (pc := 24) hX 0 dX1_unlikePairs_24 rfl rfl ?_
      refine z_get (pc := 25) (c := o) (j := 9) (v := .int (zI (m o 9))) hX rfl zfl_RX1_45 (zCat_lt ho) (zCat_e (ca := ca) (f := m o) ho) rfl dX1_unlikePairs_25 ?_
      refine z_iconst (pc := 28) hX dX1_unlikePairs_28 ?_
      refine z_isub (pc := 29) hX dX1_unlikePairs_29 ?_
      refine z_iload_n (pc := 30) hX 2 dX1_unlikePairs_30 rfl rfl ?_
      refine z_isub (pc := 31) hX dX1_unlikePairs_31 ?_
      obtain ⟨x3, hx3, hi3, h⟩ := zrd_s h
      refine z_iald (pc := 32) (c := (o + 1)) hX (zCat_a1 ho) hi3 hx3 dX1_unlikePairs_32 ?_
      refine z_icmp_eq (pc := 33) (tgt := 39) hX dX1_unlikePairs_33 (by decide) (fun hc4 => ?_) (fun hc4 => ?_)
      · replace h := (if_pos hc4).symm.trans h
        refine z_iinc (pc := 39) (lv' := [(2, .int (zI (v2 + 1))), (0, .ref (ad o)), (1, .int (zI v1))]) hX 2 dX1_unlikePairs_39 rfl (by decide) rfl ?_
        refine z_goto (pc := 42) (tgt := 4) hX dX1_unlikePairs_42 (by decide) ?_
        refine z_sub [1, 2, 0] rfl ?_
        exact ih _ _ h
      · replace h := (if_neg hc4).symm.trans h
        refine z_iinc (pc := 36) (lv' := [(1, .int (zI (v1 + 1))), (0, .ref (ad o)), (2, .int (zI v2))]) hX 1 dX1_unlikePairs_36 rfl (by decide) rfl ?_
        refine z_iinc (pc := 39) (lv' := [(2, .int (zI (v2 + 1))), (1, .int (zI (v1 + 1))), (0, .ref (ad o))]) hX 2 dX1_unlikePairs_39 rfl (by decide) rfl ?_
        refine z_goto (pc := 42) (tgt := 4) hX dX1_unlikePairs_42 (by decide) ?_
        refine z_sub [2, 1, 0] rfl ?_
        exact ih _ _ h
set_option maxRecDepth 20000 in
set_option maxHeartbeats 4000000 in
theorem wX1_unlikePairs {l : Launch} {D : va_G} {ca : Nat → ClassId} {ad : Nat → Nat} (hG : zGok (zGC D ca ad)) {o : Nat} (ho : zCat o) {r0 : Int} {m : zM} (h : FX1_unlikePairs o m = some r0) : zCt l (zGC D ca ad) yX1_unlikePairs cX1_unlikePairs 3 (some .int) rmX1_unlikePairs [.ref (ad o)] m (some (.int (zI r0))) m := by
  unfold FX1_unlikePairs at h
  refine z_of (plainFor_of_name (by decide +kernel)) hG (Nat.le_of_ble_eq_true rfl) (fun X hX => ?_)
  show zV X 3 m 0 [(0, .ref (ad o))] []
  refine z_iconst (pc := 0) hX dX1_unlikePairs_0 ?_
  refine z_istore_n (pc := 1) (lv' := [(1, .int (zI 0)), (0, .ref (ad o))]) hX dX1_unlikePairs_1 rfl (by decide) rfl ?_
  refine z_iconst (pc := 2) hX dX1_unlikePairs_2 ?_
  refine z_istore_n (pc := 3) (lv' := [(2, .int (zI 0)), (1, .int (zI 0)), (0, .ref (ad o))]) hX dX1_unlikePairs_3 rfl (by decide) rfl ?_
  refine z_sub [2, 1, 0] rfl ?_
  refine wX1_unlikePairs_L4 hG ho hX (fun y4_1 y4_2 h => ?_) _ _ _ h
  refine z_iload_n (pc := 45) hX 1 dX1_unlikePairs_45 rfl rfl ?_
  exact z_iret (pc := 46) hX rfl rfl (Option.some.inj h) rfl dX1_unlikePairs_46
