/-! copy, read -/
section CO
variable {mC mM : zM}
theorem copy_L96 {a1 a2 a3 a4 n : Int} {m : zM} {K : Int → zM → Option (Int × zM)} (h1 : 0 ≤ 48 * a1 + a2) (h2 : 48 * a1 + a2 + n ≤ 192) (h3 : 0 ≤ n) (h4 : n ≤ 48) : FX6_copy_L96 a1 a2 a3 a4 n K zfu 0 m = K n (zuc m 9 (zcp (m 8) (m 9) (48 * a1 + a2) 0 n)) := by
  refine zlom (FX6_copy_L96 a1 a2 a3 a4 n K) (fun r v m' => v + r = n ∧ 0 ≤ v ∧ m' = zuc m 9 (zcp (m 8) (m 9) (48 * a1 + a2) 0 v)) (fun x => x = K n (zuc m 9 (zcp (m 8) (m 9) (48 * a1 + a2) 0 n))) ?_ ?_ n.toNat zfu 0 m ⟨by omega, by omega, by rw [zcp_0, zuc_same]⟩ (by show _ < 4000; omega)
  · intro f r v m' ⟨i1, i2, i3⟩
    refine Or.inr ⟨v + 1, zup m' 9 v (m' 8 (48 * a1 + a2 + v)), ?_, by omega, by omega, ?_⟩
    · rw [FX6_copy_L96_s]
      unfold FX6_copy_L96_B
      rw [if_pos (zlt_i (by omega)), zrd_p ⟨by omega, by omega⟩, zwr_p ⟨by omega, by omega⟩]
    · rw [i3, zuc_ne _ _ (by omega), zup, zuc_zuc, zuc_at, ← zcp_s _ _ _ _ _ i2, show 0 + v = v by omega]
  · intro f v m' ⟨i1, i2, i3⟩
    rw [FX6_copy_L96_s]
    unfold FX6_copy_L96_B
    rw [if_neg (znlt_i (by omega)), i3, show v = n by omega]
theorem copy_L133 {a1 a2 a3 a4 n : Int} {m : zM} {K : Int → zM → Option (Int × zM)} (h1 : 0 ≤ 48 * a3 + a4) (h2 : 48 * a3 + a4 + n ≤ 192) (h3 : 0 ≤ n) (h4 : n ≤ 48) : FX6_copy_L133 a1 a2 a3 a4 n K zfu 0 m = K n (zuc m 8 (zcp (m 9) (m 8) 0 (48 * a3 + a4) n)) := by
  refine zlom (FX6_copy_L133 a1 a2 a3 a4 n K) (fun r v m' => v + r = n ∧ 0 ≤ v ∧ m' = zuc m 8 (zcp (m 9) (m 8) 0 (48 * a3 + a4) v)) (fun x => x = K n (zuc m 8 (zcp (m 9) (m 8) 0 (48 * a3 + a4) n))) ?_ ?_ n.toNat zfu 0 m ⟨by omega, by omega, by rw [zcp_0, zuc_same]⟩ (by show _ < 4000; omega)
  · intro f r v m' ⟨i1, i2, i3⟩
    refine Or.inr ⟨v + 1, zup m' 8 (48 * a3 + a4 + v) (m' 9 v), ?_, by omega, by omega, ?_⟩
    · rw [FX6_copy_L133_s]
      unfold FX6_copy_L133_B
      rw [if_pos (zlt_i (by omega)), zrd_p ⟨by omega, by omega⟩, zwr_p ⟨by omega, by omega⟩]
    · rw [i3, zuc_ne _ _ (by omega), zup, zuc_zuc, zuc_at, ← zcp_s _ _ _ _ _ i2, show 0 + v = v by omega]
  · intro f v m' ⟨i1, i2, i3⟩
    rw [FX6_copy_L133_s]
    unfold FX6_copy_L133_B
    rw [if_neg (znlt_i (by omega)), i3, show v = n by omega]
theorem S_copy (h : zRel mC mM) : zS_copy zRel mC mM := by
  intro a1 h1 a2 h2 a3 h3 a4 h4 a5 h5
  obtain ⟨r1, p1, p2⟩ := she5 h1
  obtain ⟨r2, p3, p4⟩ := she6 h1
  obtain ⟨r3, p5, p6⟩ := she5 h3
  obtain ⟨r4, p7, p8⟩ := she6 h3
  unfold FX5_copy FX6_copy
  rw [zcl_p p1, zcl_p p3]
  by_cases c : 0 ≤ a1 ∧ a1 ≤ 3
  · rw [if_neg (zyn_1 p2 c), if_neg (zyn_1 p4 c), zcl_p p5, zcl_p p7]
    by_cases c2 : 0 ≤ a3 ∧ a3 ≤ 3
    · have z1 : 0 ≤ a1 ∧ a1 < 4 := by omega
      have z3 : 0 ≤ a3 ∧ a3 < 4 := by omega
      rw [if_neg (zyn_1 p6 c2), if_neg (zyn_1 p8 c2), zix_p z1, zix_p z3, zrd_p (m := mM) (c := 6) (i := a1) z1]
      rcases h.ss a1 c.1 (by omega) with ⟨g1, g2⟩ | ⟨g1, g2, g3, g4, g5⟩
      · rw [if_pos (by rw [g1]), if_pos (by rw [g2]; exact zlt_i (by omega))]
        exact ⟨_, _, _, rfl, rfl, h⟩
      · have n1 : ¬ zI (mC (36 + 2 * a1.toNat) 2) = zI (-1) := by rw [g3]; exact zne_i (by omega)
        have n2 : ¬ zI (mM 6 a1) < zI 0 := znlt_i (by omega)
        rw [if_neg n1, if_neg n2, zrd_p (m := mM) (c := 6) (i := a3) z3]
        rcases h.ss a3 c2.1 (by omega) with ⟨f1, f2⟩ | ⟨f1, f2, f3, f4, f5⟩
        · rw [if_pos (by rw [f1]), if_pos (by rw [f2]; exact zlt_i (by omega))]
          exact ⟨_, _, _, rfl, rfl, h⟩
        · have n3 : ¬ zI (mC (36 + 2 * a3.toNat) 2) = zI (-1) := by rw [f3]; exact zne_i (by omega)
          have n4 : ¬ zI (mM 6 a3) < zI 0 := znlt_i (by omega)
          obtain ⟨q, q1, q2, q3⟩ := why_both h.ss (s := a3) (l := mM 6 a1) (i := a4) (n := a5) z3 (by omega) h4 h5
          obtain ⟨w, w1, w2, w3⟩ := why_both h.ss (s := a1) (l := mM 6 a1) (i := a2) (n := a5) z1 (by omega) h2 h5
          rw [if_neg n3, if_neg n4, g1, zcl_p q1, zjn_p, zrd_p (m := mM) (c := 6) (i := a1) z1, zrd_p (m := mM) (c := 6) (i := a3) z3]
          dsimp only
          by_cases c3 : mM 6 a1 = mM 6 a3
          · rw [if_pos (show zI (mM 6 a1) = zI (mM 6 a3) by rw [c3]), zrd_p (m := mM) (c := 6) (i := a1) z1, zcl_p w2]
            rcases w3 with w3 | w3 | ⟨-, -, w3⟩
            · omega
            · omega
            · rcases q3 with q3 | q3 | ⟨-, -, q3⟩
              · omega
              · omega
              · rcases w3 with ⟨w3, w4⟩ | ⟨w3, w4⟩
                · rw [if_pos (show zI w = zI 0 by rw [w3]), zrd_p (m := mM) (c := 6) (i := a3) z3, ← c3, zcl_p q2]
                  rcases q3 with ⟨q3, q4⟩ | ⟨q3, q4⟩
                  · rw [if_pos (show zI q = zI 0 by rw [q3]), zcl_p w1, if_pos (show zI w = zI 0 by rw [w3]), zcpy_p (by omega), if_pos (show zI q = zI 0 by rw [q3]), copy_L96 (by omega) (by omega) (by omega) (by omega), copy_L133 (by omega) (by omega) (by omega) (by omega)]
                    obtain ⟨m1, hm1⟩ : ∃ x, x = zuc mM 9 (zcp (mM 8) (mM 9) (48 * a1 + a2) 0 a5) := ⟨_, rfl⟩
                    rw [← hm1]
                    have e8 : m1 8 = mM 8 := by rw [hm1, zuc_ne _ _ (by omega)]
                    have e9 : m1 9 = zcp (mM 8) (mM 9) (48 * a1 + a2) 0 a5 := by rw [hm1, zuc_at]
                    refine ⟨_, _, _, rfl, rfl, zRel_ss h (fun s s0 s1 => ?_) (fun c hc => zuc_ne _ _ (by omega)) (fun c hc => by rw [zuc_ne _ _ (by omega), hm1, zuc_ne _ _ (by omega)])⟩
                    rw [zuc_ne _ _ (show 36 + 2 * s.toNat ≠ 36 + 2 * a3.toNat + 1 by omega), zuc_ne _ _ (show (6 : Nat) ≠ 8 by omega), zuc_ne _ _ (show (7 : Nat) ≠ 8 by omega), zuc_at, e8, e9, hm1, zuc_ne _ _ (show (6 : Nat) ≠ 9 by omega), zuc_ne _ _ (show (7 : Nat) ≠ 9 by omega)]
                    rcases h.ss s s0 s1 with k | ⟨k1, k2, k3, k4, k5⟩
                    · exact Or.inl k
                    · refine Or.inr ⟨k1, k2, k3, k4, fun i i0 i1 => ?_⟩
                      by_cases e : s = a3
                      · subst e
                        rw [zuc_at]
                        by_cases e2 : a4 ≤ i ∧ i < a4 + a5
                        · rw [zcp_in _ _ e2, zcp_in _ _ (by omega), zcp_in _ _ (by omega), show 48 * a1 + a2 + (0 + (48 * s + i - (48 * s + a4)) - 0) = 48 * a1 + (a2 + (i - a4)) by omega]
                          exact g5 _ (by omega) (by omega)
                        · rw [zcp_out _ _ e2, zcp_out _ _ (by omega)]
                          exact k5 i i0 i1
                      · rw [zuc_ne _ _ (by omega), zcp_out _ _ (by omega)]
                        exact k5 i i0 i1
                  · have n5 : ¬ zI q = zI 0 := zne_i (by omega)
                    rw [if_neg n5, if_neg n5, if_neg n5, q3]
                    exact ⟨_, _, _, rfl, rfl, h⟩
                · have n6 : ¬ zI w = zI 0 := zne_i (by omega)
                  rw [if_neg n6]
                  rcases q3 with ⟨q3, q4⟩ | ⟨q3, q4⟩
                  · rw [if_pos (show zI q = zI 0 by rw [q3]), zcl_p w1, if_neg n6, w3]
                    exact ⟨_, _, _, rfl, rfl, h⟩
                  · have n5 : ¬ zI q = zI 0 := zne_i (by omega)
                    rw [if_neg n5, if_neg n5, q3]
                    exact ⟨_, _, _, rfl, rfl, h⟩
          · have n5 : ¬ zI (mM 6 a1) = zI (mM 6 a3) := zne_i (by omega)
            rcases q3 with q3 | ⟨q3, q4, q5⟩ | ⟨q3, q4, q5⟩
            · omega
            · have n6 : ¬ zI q = zI 0 := zne_i (by omega)
              rw [if_neg n5, if_neg n6, if_neg n6, q4]
              exact ⟨_, _, _, rfl, rfl, h⟩
            · omega
    · rw [if_pos (zyn_0 p6 c2), if_pos (zyn_0 p8 c2)]
      exact ⟨_, _, _, rfl, rfl, h⟩
  · rw [if_pos (zyn_0 p2 c), if_pos (zyn_0 p4 c)]
    exact ⟨_, _, _, rfl, rfl, h⟩
theorem holds_spec {o : Nat} {i n : Int} {m : zM} (h : ∀ d, 0 ≤ d → d < n → zRl (m (o + 1) (i + d))) (h1 : 0 ≤ i) (h2 : i + n ≤ 48) (h3 : 0 ≤ n) : ∃ r, FX4_holdsBytes o i n m = some r ∧ zyn r (∀ d, 0 ≤ d → d < n → 0 ≤ m (o + 1) (i + d) ∧ m (o + 1) (i + d) ≤ 255) := by
  unfold FX4_holdsBytes
  refine zlo1 (FX4_holdsBytes_L2 o i n m (fun _ => some 1)) (fun r v => v + r = n ∧ 0 ≤ v ∧ ∀ d, 0 ≤ d → d < v → 0 ≤ m (o + 1) (i + d) ∧ m (o + 1) (i + d) ≤ 255) (fun x => ∃ r, x = some r ∧ zyn r (∀ d, 0 ≤ d → d < n → 0 ≤ m (o + 1) (i + d) ∧ m (o + 1) (i + d) ≤ 255)) ?_ ?_ n.toNat zfu 0 ⟨by omega, by omega, fun d d0 d1 => by omega⟩ (by show _ < 4000; omega)
  · intro f r v ⟨i1, i2, i3⟩
    obtain ⟨q, q1, q2⟩ := byte5 (h v i2 (by omega))
    rw [FX4_holdsBytes_L2_s]
    unfold FX4_holdsBytes_L2_B
    rw [if_pos (zlt_i (by omega)), zrd_p ⟨by omega, by omega⟩, zcl_p q1]
    by_cases c : 0 ≤ m (o + 1) (i + v) ∧ m (o + 1) (i + v) ≤ 255
    · rw [if_neg (zyn_1 q2 c)]
      refine Or.inr ⟨v + 1, rfl, by omega, by omega, fun d d0 d1 => ?_⟩
      by_cases e : d = v
      · subst e; exact c
      · exact i3 d d0 (by omega)
    · rw [if_pos (zyn_0 q2 c)]
      exact Or.inl ⟨0, rfl, Or.inr ⟨rfl, fun q => c (q v i2 (by omega))⟩⟩
  · intro f v ⟨i1, i2, i3⟩
    rw [FX4_holdsBytes_L2_s]
    unfold FX4_holdsBytes_L2_B
    rw [if_neg (znlt_i (by omega))]
    exact ⟨1, rfl, Or.inl ⟨rfl, fun d d0 d1 => i3 d d0 (by omega)⟩⟩
theorem read_L56 {a1 a2 a3 a4 : Int} {m : zM} {K : Int → Option (Int × zM)} (h : ∀ d, 0 ≤ d → d < a4 → zRl (m 8 (48 * a1 + a3 + d))) (h1 : 0 ≤ 48 * a1 + a3) (h2 : 48 * a1 + a3 + a4 ≤ 192) (h3 : 0 ≤ a4) (h4 : a4 ≤ 48) : ((∀ d, 0 ≤ d → d < a4 → 0 ≤ m 8 (48 * a1 + a3 + d) ∧ m 8 (48 * a1 + a3 + d) ≤ 255) ∧ FX6_read_L56 a1 a2 a3 a4 m K zfu 0 = K a4) ∨ (¬ (∀ d, 0 ≤ d → d < a4 → 0 ≤ m 8 (48 * a1 + a3 + d) ∧ m 8 (48 * a1 + a3 + d) ≤ 255) ∧ FX6_read_L56 a1 a2 a3 a4 m K zfu 0 = some (-2, m)) := by
  refine zlo1 (FX6_read_L56 a1 a2 a3 a4 m K) (fun r v => v + r = a4 ∧ 0 ≤ v ∧ ∀ d, 0 ≤ d → d < v → 0 ≤ m 8 (48 * a1 + a3 + d) ∧ m 8 (48 * a1 + a3 + d) ≤ 255) (fun x => ((∀ d, 0 ≤ d → d < a4 → 0 ≤ m 8 (48 * a1 + a3 + d) ∧ m 8 (48 * a1 + a3 + d) ≤ 255) ∧ x = K a4) ∨ (¬ (∀ d, 0 ≤ d → d < a4 → 0 ≤ m 8 (48 * a1 + a3 + d) ∧ m 8 (48 * a1 + a3 + d) ≤ 255) ∧ x = some (-2, m))) ?_ ?_ a4.toNat zfu 0 ⟨by omega, by omega, fun d d0 d1 => by omega⟩ (by show _ < 4000; omega)
  · intro f r v ⟨i1, i2, i3⟩
    obtain ⟨q, q1, q2⟩ := w6l (a := m 8 (48 * a1 + a3 + v)) (lo := 0) (hi := 255) ⟨h v i2 (by omega), by omega, by omega⟩
    rw [FX6_read_L56_s]
    unfold FX6_read_L56_B
    rw [if_pos (zlt_i (by omega)), zrd_p ⟨by omega, by omega⟩, zcl_p q1]
    by_cases c : 0 ≤ m 8 (48 * a1 + a3 + v) ∧ m 8 (48 * a1 + a3 + v) ≤ 255
    · rw [if_neg (zyn_1 q2 c)]
      refine Or.inr ⟨v + 1, rfl, by omega, by omega, fun d d0 d1 => ?_⟩
      by_cases e : d = v
      · subst e; exact c
      · exact i3 d d0 (by omega)
    · rw [if_pos (zyn_0 q2 c)]
      exact Or.inl (Or.inr ⟨fun q => c (q v i2 (by omega)), rfl⟩)
  · intro f v ⟨i1, i2, i3⟩
    rw [FX6_read_L56_s]
    unfold FX6_read_L56_B
    rw [if_neg (znlt_i (by omega)), show v = a4 by omega]
    exact Or.inl ⟨fun d d0 d1 => i3 d d0 (by omega), rfl⟩
theorem read_LL {a1 a2 a3 a4 : Int} {K : Int → zM → Option (Int × zM)} {K' : Int → zM → Option (Int × zM)} (ha : 0 ≤ a1 ∧ a1 < 4) (h1 : 0 ≤ a3) (h2 : a3 + a4 ≤ 48) : ∀ (r f : Nat) (v : Int) (mC mM : zM), zRel mC mM → 0 ≤ v → v + r = a4 → mM 0 6 + r ≤ 48 → (∀ d, 0 ≤ d → d < a4 → mC (36 + 2 * a1.toNat + 1) (a3 + d) = mM 8 (48 * a1 + a3 + d) ∧ 0 ≤ mM 8 (48 * a1 + a3 + d) ∧ mM 8 (48 * a1 + a3 + d) ≤ 255) → r < f →
    ∃ mC' mM', FX5_read_L89 a1 a2 a3 a4 K f v mC = K a4 mC' ∧ FX6_read_L114 a1 a2 a3 a4 K' f v mM = K' a4 mM' ∧ zRel mC' mM' := by
  intro r
  induction r with
  | zero =>
    intro f v mC mM h v0 v1 v2 v3 hf
    obtain ⟨f, rfl⟩ : ∃ g, f = g + 1 := ⟨f - 1, by omega⟩
    refine ⟨mC, mM, ?_, ?_, h⟩
    · rw [FX5_read_L89_s]; unfold FX5_read_L89_B; rw [if_neg (znlt_i (by omega)), show v = a4 by omega]
    · rw [FX6_read_L114_s]; unfold FX6_read_L114_B; rw [if_neg (znlt_i (by omega)), show v = a4 by omega]
  | succ r ih =>
    intro f v mC mM h v0 v1 v2 v3 hf
    obtain ⟨f, rfl⟩ : ∃ g, f = g + 1 := ⟨f - 1, by omega⟩
    obtain ⟨w1, w2, w3⟩ := v3 v v0 (by omega)
    have g2 := h.tp.2.1
    obtain ⟨mC1, mM1, d1, d2, d3, d4, d5, d6, d7⟩ := tape_both h ⟨w2, w3⟩ (by omega)
    obtain ⟨mC', mM', e1, e2, e3⟩ := ih f (v + 1) mC1 mM1 d3 (by omega) (by omega) (by omega) (fun d d0 d1 => by rw [d6 _ (by omega), d7]; exact v3 d d0 d1) (by omega)
    refine ⟨mC', mM', ?_, ?_, e3⟩
    · rw [FX5_read_L89_s]; unfold FX5_read_L89_B; rw [if_pos (zlt_i (by omega)), zrd_p ⟨by omega, by omega⟩, w1, zw_id (by omega), zcl_p d1, e1]
    · rw [FX6_read_L114_s]; unfold FX6_read_L114_B; rw [if_pos (zlt_i (by omega)), zrd_p ⟨by omega, by omega⟩, zw_id (by omega), zwr_p ⟨by omega, by omega⟩, zpf_p, zup_o _ _ _ (show (0 : Nat) ≠ 5 by omega), ← d2, e2]
theorem S_read (h : zRel mC mM) : zS_read zRel mC mM := by
  intro a1 h1 a2 h2 a3 h3 a4 h4
  obtain ⟨r1, p1, p2⟩ := she5 h1
  obtain ⟨r2, p3, p4⟩ := she6 h1
  obtain ⟨r3, p5, p6⟩ := lan5 h2
  obtain ⟨r4, p7, p8⟩ := w6 (a := a2) (lo := 0) (hi := 3) ⟨h2, by omega, by omega⟩
  obtain ⟨r5, p9, p10⟩ := w5 (a := a4) (lo := 0) (hi := 48) ⟨h4, by omega, by omega⟩
  obtain ⟨r6, p11, p12⟩ := w6 (a := a4) (lo := 0) (hi := 48) ⟨h4, by omega, by omega⟩
  unfold FX5_read FX6_read
  rw [zcl_p p1, zcl_p p3]
  by_cases c : 0 ≤ a1 ∧ a1 ≤ 3
  · rw [if_neg (zyn_1 p2 c), if_neg (zyn_1 p4 c), zcl_p p5, zgd_p h2, zcl_p p7]
    by_cases c2 : 0 ≤ a2 ∧ a2 ≤ 3
    · rw [if_neg (zyn_1 p6 c2), if_neg (zyn_1 p8 c2), zcl_p p9, zgd_p h4, zcl_p p11]
      by_cases c3 : 0 ≤ a4 ∧ a4 ≤ 48
      · obtain ⟨q, q1, q2, q3⟩ := why_both h.ss (s := a1) (l := a2) (i := a3) (n := a4) (by omega) h2 h3 h4
        rw [if_neg (zyn_1 p10 c3), if_neg (zyn_1 p12 c3), zix_p ⟨by omega, by omega⟩, zcl_p q1, zcl_p q2]
        by_cases c4 : q = 0
        · have z4 : zI q = zI 0 := by rw [c4]
          rw [if_pos z4, if_pos z4]
          have hC : 0 ≤ mM 6 a1 ∧ 0 ≤ a3 ∧ a3 + a4 ≤ mM 7 a1 := by
            rcases q3 with q3 | q3 | ⟨q3, q4, q5⟩ <;> omega
          rcases h.ss a1 c.1 (by omega) with f | ⟨f1, f2, f3, f4, f5⟩
          · omega
          · have hd : ∀ d, 0 ≤ d → d < a4 → mC (36 + 2 * a1.toNat + 1) (a3 + d) = mM 8 (48 * a1 + a3 + d) ∧ zRl (mM 8 (48 * a1 + a3 + d)) := fun d d0 d1 => by
              have := f5 (a3 + d) (by omega) (by omega)
              rw [show 48 * a1 + (a3 + d) = 48 * a1 + a3 + d by omega] at this
              exact this
            have t2 := h.tp
            have t3 := t2.2.1
            obtain ⟨w, w1, w2⟩ := holds_spec (o := 36 + 2 * a1.toNat) (i := a3) (n := a4) (m := mC) (fun d d0 d1 => by rw [(hd d d0 d1).1]; exact (hd d d0 d1).2) (by omega) (by omega) (by omega)
            rw [zcl_p w1]
            rcases read_L56 (a1 := a1) (a2 := a2) (a3 := a3) (a4 := a4) (m := mM) (K := fun y56_6 => if zI 48 < zI ((mM 0 6) + a4) then (some ((-3), mM)) else (FX6_read_L114 a1 a2 a3 a4 (fun y114_6 m114_ => some ((m114_ 0 6), m114_)) zfu 0 mM)) (fun d d0 d1 => (hd d d0 d1).2) (by omega) (by omega) (by omega) (by omega) with ⟨g1, g2⟩ | ⟨g1, g2⟩
            · rw [g2, if_neg (zyn_1 w2 (fun d d0 d1 => by rw [(hd d d0 d1).1]; exact g1 d d0 d1)), t2.1]
              by_cases c5 : 48 < mM 0 6 + a4
              · rw [if_pos (zlt_i (by omega)), if_pos (zlt_i (by omega))]
                exact ⟨_, _, _, rfl, rfl, h⟩
              · have n5 : ¬ zI 48 < zI (mM 0 6 + a4) := znlt_i (by omega)
                rw [if_neg n5, if_neg n5]
                obtain ⟨mC', mM', e1, e2, e3⟩ := read_LL (a1 := a1) (a2 := a2) (a3 := a3) (a4 := a4) (K := fun y89_7 m89_ => some ((m89_ 33 1), m89_)) (K' := fun y114_6 m114_ => some ((m114_ 0 6), m114_)) (by omega) (by omega) (by omega) a4.toNat zfu 0 mC mM h (by omega) (by omega) (by omega) (fun d d0 d1 => ⟨(hd d d0 d1).1, g1 d d0 d1⟩) (by show _ < 4000; omega)
                rw [e1, e2]
                exact ⟨mM' 0 6, mC', mM', by rw [e3.tp.1], rfl, e3⟩
            · rw [g2, if_pos (zyn_0 w2 (fun q => g1 (fun d d0 d1 => by rw [← (hd d d0 d1).1]; exact q d d0 d1)))]
              exact ⟨_, _, _, rfl, rfl, h⟩
        · have z4 : ¬ zI q = zI 0 := zne_i (by omega)
          rw [if_neg z4, if_neg z4]
          exact ⟨_, _, _, rfl, rfl, h⟩
      · rw [if_pos (zyn_0 p10 c3), if_pos (zyn_0 p12 c3)]
        exact ⟨_, _, _, rfl, rfl, h⟩
    · rw [if_pos (zyn_0 p6 c2), if_pos (zyn_0 p8 c2)]
      exact ⟨_, _, _, rfl, rfl, h⟩
  · rw [if_pos (zyn_0 p2 c), if_pos (zyn_0 p4 c)]
    exact ⟨_, _, _, rfl, rfl, h⟩
end CO
