section CV
variable {mC mM : zM}
/-- without even ones alone, all is reached -/
theorem zFr_fin {x : Int → Int} {n : Int} {F : Int → Int} (hn : n ≤ 48) (h : zFr x 0 n F 0) : ∀ (r : Nat) (s : Int), 0 ≤ s → s + r = n → 0 ≤ F s ∧ F s ≤ n - s ∧ (s < n → 1 ≤ F s) := by
  intro r
  induction r with
  | zero =>
    intro s s0 s1
    have e : s = n := by omega
    rw [e, h.1]; omega
  | succ r ih =>
    intro s s0 s1
    have k := ih (s + 1) (by omega) (by omega)
    rcases h.2 s s0 (by omega) with ⟨a1, a2⟩ | ⟨a1, a2, -⟩
    · have := a2 1 (by omega) (by omega) ⟨zp_1 (by omega), Or.inl rfl⟩
      omega
    · omega
theorem cuts81 {m : zM} (hT : zTm m) {n a2 k5 s : Int} {G L : Int → Int} {K : Int → Option (Int × zM)} (hn : n ≤ m 0 0) (h : zDp (zx m) 0 n G L 0 48) (hG : ∀ q, 0 ≤ q → q ≤ n → G q = m 12 q ∧ 0 ≤ m 12 q ∧ m 12 q ≤ 48) (s0 : 0 ≤ s) (s1 : s < n) : FX6_cuts_L81 n a2 s k5 m K zfu 1 = K (L s) ∧ 1 ≤ L s ∧ s + L s ≤ n ∧ m 12 (s + L s) + 1 = m 12 s := by
  have hb := hT.2.1
  have g0 := hG s s0 (by omega)
  rcases h.2 s s0 s1 with ⟨a1, a2⟩ | ⟨a1, a2, a3, a4, a5, a6, a7, a8⟩
  · omega
  · have g1 := hG (s + L s) (by omega) a4
    refine ⟨?_, a3, a4, by omega⟩
    refine zlo1 (FX6_cuts_L81 n _ s k5 m K) (fun r v => v + r = L s ∧ 1 ≤ v) (fun z => z = K (L s)) ?_ ?_ (L s - 1).toNat zfu 1 ⟨by omega, by omega⟩ (by show _ < 4000; omega)
    · intro f r v ⟨i1, i2⟩
      obtain ⟨q, q1, q2⟩ := isMirror_spec hT (i := s) (k := v) s0 (by omega) (by omega)
      have g2 := hG (s + v) (by omega) (by omega)
      rw [FX6_cuts_L81_s]
      unfold FX6_cuts_L81_B
      rw [zcl_p q1]
      by_cases c : zp (zx m) s v
      · have k := (a8 v i2 (by omega) (by omega) ⟨c, Or.inl rfl⟩).2
        rw [if_neg (zyn_1 q2 c), zrd_p ⟨by omega, by omega⟩, zrd_p ⟨by omega, by omega⟩, if_neg (zne_i ⟨by omega, by omega, by omega, by omega, fun e => by have := k (by omega); omega⟩)]
        exact Or.inr ⟨v + 1, rfl, by omega, by omega⟩
      · rw [if_pos (zyn_0 q2 c)]
        exact Or.inr ⟨v + 1, rfl, by omega, by omega⟩
    · intro f v ⟨i1, i2⟩
      have e : v = L s := by omega
      subst e
      obtain ⟨q, q1, q2⟩ := isMirror_spec hT (i := s) (k := L s) s0 (by omega) (by omega)
      rw [FX6_cuts_L81_s]
      unfold FX6_cuts_L81_B
      rw [zcl_p q1, if_neg (zyn_1 q2 a6.1), zrd_p ⟨by omega, by omega⟩, zrd_p ⟨by omega, by omega⟩, if_pos (congrArg zI (by omega))]
theorem cuts_LL {m2 m4 : zM} (hT : zTm m4) {n a2 : Int} {K : Int → Int → Int → Option (Int × zM)} (hn : n ≤ m4 0 0) (h : zDp (zx m4) 0 n (m2 26) (m2 27) 0 48) (hG : ∀ q, 0 ≤ q → q ≤ n → m2 26 q = m4 12 q ∧ 0 ≤ m4 12 q ∧ m4 12 q ≤ 48) (ha : 0 ≤ a2 ∧ a2 ≤ 48) : ∀ (r f f' : Nat) (s i v3 v4 : Int), 0 ≤ s → s ≤ n → 0 ≤ i → i + r = a2 → v3 + v4 = s → r < m4 12 s → r < f → r + 1 < f' →
    ∃ w p q, FX2_pieceLength_L4 a2 m2 (fun y4_2 y4_3 => zrd m2 27 y4_2 49 fun x3 => some x3) f s i = some w ∧ FX6_cuts_L67 n a2 m4 K f' v3 v4 i = K p w q := by
  have hb := hT.2.1
  intro r
  induction r with
  | zero =>
    intro f f' s i v3 v4 s0 s1 i0 i1 hv hl hf hf'
    obtain ⟨f, rfl⟩ : ∃ g, f = g + 1 := ⟨f - 1, by omega⟩
    obtain ⟨f', rfl⟩ : ∃ g, f' = g + 2 := ⟨f' - 2, by omega⟩
    have sn : s < n := by
      by_cases c : s = n
      · have := h.1; have := hG n (by omega) (by omega); rw [c] at hl; omega
      · omega
    obtain ⟨k1, k2, k3, k4⟩ := cuts81 hT (a2 := a2) (k5 := i) (K := fun y81_4 => FX6_cuts_L67 n a2 m4 K (f' + 1) s y81_4 (i + 1)) hn h hG s0 sn
    refine ⟨m2 27 s, s, i + 1, ?_, ?_⟩
    · rw [FX2_pieceLength_L4_s]
      unfold FX2_pieceLength_L4_B
      rw [if_neg (znlt_i (by omega))]
      exact zrd_p ⟨by omega, by omega⟩
    · rw [FX6_cuts_L67_s]
      unfold FX6_cuts_L67_B
      rw [if_neg (znlt_i (by omega)), hv, k1, FX6_cuts_L67_s]
      unfold FX6_cuts_L67_B
      rw [if_pos (zlt_i (by omega))]
  | succ r ih =>
    intro f f' s i v3 v4 s0 s1 i0 i1 hv hl hf hf'
    obtain ⟨f, rfl⟩ : ∃ g, f = g + 1 := ⟨f - 1, by omega⟩
    obtain ⟨f', rfl⟩ : ∃ g, f' = g + 1 := ⟨f' - 1, by omega⟩
    have sn : s < n := by
      by_cases c : s = n
      · have := h.1; have := hG n (by omega) (by omega); rw [c] at hl; omega
      · omega
    obtain ⟨k1, k2, k3, k4⟩ := cuts81 hT (a2 := a2) (k5 := i) (K := fun y81_4 => FX6_cuts_L67 n a2 m4 K f' s y81_4 (i + 1)) hn h hG s0 sn
    obtain ⟨w, p, q, e1, e2⟩ := ih f f' (s + m2 27 s) (i + 1) s (m2 27 s) (by omega) k3 (by omega) (by omega) rfl (by omega) (by omega) (by omega)
    refine ⟨w, p, q, ?_, ?_⟩
    · rw [FX2_pieceLength_L4_s]
      unfold FX2_pieceLength_L4_B
      rw [if_pos (zlt_i (by omega)), zrd_p ⟨by omega, by omega⟩, e1]
    · rw [FX6_cuts_L67_s]
      unfold FX6_cuts_L67_B
      rw [if_neg (znlt_i (by omega)), hv, k1, e2]
theorem S_cuts (h : zRel mC mM) : zS_cuts zRel mC mM := by
  intro a1 h1 a2 h2
  have hb : 0 ≤ mC 1 9 ∧ mC 1 9 ≤ 48 := h.t.ct.1
  have b0 := h.t.n
  obtain ⟨r1, p1, p2⟩ := w5 (a := a1) (lo := 0) (hi := mC 1 9) ⟨h1, by omega, by omega⟩
  obtain ⟨r2, p3, p4⟩ := w6 (a := a1) (lo := 0) (hi := mM 0 0) ⟨h1, by omega, by omega⟩
  rw [b0] at p4
  have g1 : zR (mM 0 0) := by omega
  by_cases c : 0 ≤ a1 ∧ a1 ≤ mC 1 9
  · by_cases c2 : a2 < -1
    · unfold FX5_cuts FX6_cuts
      rw [zcl_p p1, if_neg (zyn_1 p2 c), if_pos (zlt_i (by omega)), zgd_p h1, zgd_p g1, zcl_p p3, if_neg (zyn_1 p4 c), if_pos (zlt_i (by omega))]
      exact ⟨_, _, _, rfl, rfl, h⟩
    · have hci := h.t.ci
      rw [b0] at hci
      obtain ⟨m2, d1, d2, d3⟩ := cut5 (ev := 0) hci (Or.inl rfl) c.1 c.2
      obtain ⟨m4, e1, e2, e3⟩ := layCuts6 h.t.T (n := a1) (st := 1) (ev := 0) (Or.inl ⟨rfl, rfl⟩) c.1 (by omega)
      have hR := zRel_E h (zcE_F h d2) (zmE_F e2)
      have hfin := zFr_fin (by omega) e3
      have hG : ∀ q, 0 ≤ q → q ≤ a1 → m2 26 q = m4 12 q ∧ 0 ≤ m4 12 q ∧ m4 12 q ≤ 48 := fun q q0 q1 => by
        have k1 := zDF (by omega) d3 e3 (a1 - q).toNat q q0 (by omega)
        have k2 := hfin (a1 - q).toNat q q0 (by omega)
        omega
      have g0 := hG 0 (by omega) (by omega)
      have hx4 : zx m4 = zx mM := by unfold zx; rw [e2 1 (by omega)]
      have hT4 : zTm m4 := by unfold zTm; rw [e2 0 (by omega), e2 1 (by omega)]; exact h.t.T
      have hp : FX2_pieces m2 = some (m2 26 0) := by unfold FX2_pieces; rw [zrd_p ⟨by omega, by omega⟩]
      have n2 : ¬ zI a2 < zI (-1) := znlt_i (by omega)
      have sC : FX5_cuts a1 a2 mC = (if zI a2 = zI (-1) then (some (m2 26 0, m2)) else (if zI a2 < zI (m2 26 0) then (zcl (FX2_pieceLength a2 m2) fun r4 => some (r4, m2)) else (some ((-4), m2)))) := by
        unfold FX5_cuts; rw [zcl_p p1, if_neg (zyn_1 p2 c), if_neg n2, zcl_p d1, zcl_p hp]
      by_cases c3 : a2 = -1
      · have z3 : zI a2 = zI (-1) := by rw [c3]
        refine ⟨m4 12 0, m2, m4, by rw [sC, if_pos z3, g0.1], ?_, hR⟩
        unfold FX6_cuts
        rw [zgd_p h1, zgd_p g1, zcl_p p3, if_neg (zyn_1 p4 c), if_neg n2, zcl_p e1, zjn_p, if_pos z3, if_pos z3, zrd_p ⟨by omega, by omega⟩]
      · have z3 : ¬ zI a2 = zI (-1) := zne_i (by omega)
        by_cases c4 : a2 < m4 12 0
        · obtain ⟨w, p, q, k1, k2⟩ := cuts_LL hT4 (n := a1) (a2 := a2) (K := fun y67_3 y67_4 y67_5 => some (y67_4, m4)) (by rw [e2 0 (by omega)]; omega) (by rw [hx4]; exact d3) hG (by omega) a2.toNat zfu zfu 0 0 0 0 (by omega) (by omega) (by omega) (by omega) (by omega) (by omega) (by show _ < 4000; omega) (by show _ < 4000; omega)
          have kp : FX2_pieceLength a2 m2 = some w := k1
          refine ⟨w, m2, m4, by rw [sC, if_neg z3, g0.1, if_pos (zlt_i (by omega)), zcl_p kp], ?_, hR⟩
          unfold FX6_cuts
          rw [zgd_p h1, zgd_p g1, zcl_p p3, if_neg (zyn_1 p4 c), if_neg n2, zcl_p e1, zjn_p]
          rw [if_neg z3, zrd_p ⟨by omega, by omega⟩, if_pos (zlt_i (by omega))]
          exact k2
        · refine ⟨-4, m2, m4, by rw [sC, if_neg z3, g0.1, if_neg (znlt_i (by omega))], ?_, hR⟩
          unfold FX6_cuts
          rw [zgd_p h1, zgd_p g1, zcl_p p3, if_neg (zyn_1 p4 c), if_neg n2, zcl_p e1, zjn_p]
          rw [if_neg z3, zrd_p ⟨by omega, by omega⟩, if_neg (znlt_i (by omega)), if_neg z3]
  · unfold FX5_cuts FX6_cuts
    rw [zcl_p p1, if_pos (zyn_0 p2 c), zgd_p h1, zgd_p g1, zcl_p p3, if_pos (zyn_0 p4 c)]
    exact ⟨_, _, _, rfl, rfl, h⟩
end CV
