/-! grow, odds -/
section GO
variable {mC mM : zM}
/-- what the two memories keep while rows are tried -/
def zGk (mC0 mM0 mC mM : zM) : Prop := (∀ c : Nat, (1 ≤ c ∧ c ≤ 10) ∨ (21 ≤ c ∧ c ≤ 43) → mC c = mC0 c) ∧ zmE mM0 mM
theorem grow_LL (h : zRel mC mM) {a a2 : Int} {K : Int → Int → zM → Option (Int × zM)} {K' : Int → Int → Int → zM → Option (Int × zM)} (ha : 0 ≤ a ∧ a ≤ 3) (hna : mC 1 9 + a ≤ 48) : ∀ (r f f' : Nat) (t v2 v3 b : Int) (m m' : zM), 0 ≤ t → t + r = zpw a → (t < zpw a → zRw m (mC 2) (mC 1 9) a t) → zCI m 11 → zGk mC mM m m' → ((t = 0 ∧ v2 = -1 ∧ v3 = -1) ∨ (v2 = v3 + mC 1 10 ∧ 0 ≤ v3 ∧ v3 ≤ 48 ∧ 0 ≤ b ∧ b < zpw a ∧ ∀ q, 0 ≤ q → q < a → m 44 q = 97 + zdt a q b)) → r < f → r < f' →
    ∃ v3' b' m1 m1', FX5_growMost_L15 a (zpw a) K f v2 t m = K (v3' + mC 1 10) (zpw a) m1 ∧ FX6_grow_L41 a a2 K' f' v3 b t m' = K' v3' b' (zpw a) m1' ∧ zCI m1 11 ∧ zGk mC mM m1 m1' ∧ 0 ≤ b' ∧ b' < zpw a ∧ ∀ q, 0 ≤ q → q < a → m1 44 q = 97 + zdt a q b' := by
  have hb : 0 ≤ mC 1 9 ∧ mC 1 9 ≤ 48 := h.t.ct.1
  have hN : 0 ≤ mC 1 10 ∧ mC 1 10 ≤ mC 1 9 ∧ mC 1 9 ≤ 48 := zci_N h.t.ct
  have b0 := h.t.n
  have pb := zpw_b (e := a) (by omega)
  intro r
  induction r with
  | zero =>
    intro f f' t v2 v3 b m m' t0 t1 hr hc hk hi hf hf'
    obtain ⟨f, rfl⟩ : ∃ g, f = g + 1 := ⟨f - 1, by omega⟩
    obtain ⟨f', rfl⟩ : ∃ g, f' = g + 1 := ⟨f' - 1, by omega⟩
    rcases hi with hi | ⟨i1, i2, i3, i4, i5, i6⟩
    · omega
    · refine ⟨v3, b, m, m', ?_, ?_, hc, hk, i4, i5, i6⟩
      · rw [FX5_growMost_L15_s]; unfold FX5_growMost_L15_B; rw [if_neg (znlt_i (by omega)), i1, show t = zpw a by omega]
      · rw [FX6_grow_L41_s]; unfold FX6_grow_L41_B; rw [zcl_p (power6 (by omega)), if_neg (znlt_i (by omega)), show t = zpw a by omega]
  | succ r ih =>
    intro f f' t v2 v3 b m m' t0 t1 hr hc hk hi hf hf'
    obtain ⟨f, rfl⟩ : ∃ g, f = g + 1 := ⟨f - 1, by omega⟩
    obtain ⟨f', rfl⟩ : ∃ g, f' = g + 1 := ⟨f' - 1, by omega⟩
    have hrw := hr (by omega)
    have hT' : zTm m' := by
      obtain ⟨T1, T2, T3⟩ := h.t.T
      refine ⟨by rw [hk.2.2.1]; exact T1, by rw [hk.2.2.1]; exact T2, fun i i0 i1 => ?_⟩
      rw [hk.2.2.1] at i1
      rw [hk.2.2.2.2.2 i i0 i1]
      exact T3 i i0 i1
    have hx' : ∀ q, 0 ≤ q → q < mC 1 9 → mC 2 q = zx m' q := fun q q0 q1 => by
      unfold zx
      rw [hk.2.2.2.2.2 q q0 (by omega)]
      exact h.t.x q q0 q1
    have hNN : mC 1 10 = zct (zNw (zx m')) (mC 1 9).toNat := by
      have := zNd_ct (zNd_cg h.t.ct.2.2.1 (fun i i0 i1 => hx' i i0 i1)) hb.1
      exact this
    obtain ⟨m2', e1, e2, e3, e4⟩ := more6 (mM := m') hrw (by rw [hk.2.2.1, b0]) hT' hx' (by omega) hna (by omega) hNN
    obtain ⟨s, hs⟩ : ∃ s, s = m 11 10 - mC 1 10 := ⟨_, rfl⟩
    rw [← hs] at e1
    have hm19 : m 1 = mC 1 := hk.1 1 (by omega)
    have n1 : zI t < zI (zpw a) := zlt_i (by omega)
    have hv : -1 ≤ v2 ∧ v2 ≤ 96 ∧ -1 ≤ v3 ∧ v3 ≤ 48 := by
      rcases hi with hi | ⟨i1, i2, i3, i4, i5, i6⟩ <;> omega
    -- whether the row is better
    by_cases c : v3 < s
    · have cC : v2 < m 11 10 := by rcases hi with hi | ⟨i1, i2, i3, i4, i5, i6⟩ <;> omega
      obtain ⟨m3, hm3⟩ : ∃ q, q = zuc m 44 (zcp (m 12) (m 44) (m 1 9) 0 a) := ⟨_, rfl⟩
      have e3c : ∀ c : Nat, c ≠ 44 → m3 c = m c := fun c hc => by rw [hm3, zuc_ne _ _ hc]
      have rw3 : zRw m3 (mC 2) (mC 1 9) a t := ⟨zCI_cg hrw.1 (fun k hk => e3c _ (by omega)), by rw [e3c 11 (by omega)]; exact hrw.2.1, fun q q0 q1 => by rw [e3c 12 (by omega)]; exact hrw.2.2.1 q q0 q1, fun q q0 q1 => by rw [e3c 12 (by omega)]; exact hrw.2.2.2 q q0 q1⟩
      obtain ⟨m4, s1, s2, s3, s4⟩ := step5 rw3 hb.1 (by omega) hna t0 (by omega)
      have k44 : ∀ q, 0 ≤ q → q < a → m4 44 q = 97 + zdt a q t := fun q q0 q1 => by
        rw [s3 44 (by omega), hm3, zuc_at, zcp_in _ _ (by omega), hm19, show mC 1 9 + (q - 0) = mC 1 9 + q by omega]
        exact hrw.2.2.2 q q0 q1
      obtain ⟨v3', b', m1, m1', q1, q2, q3⟩ := ih f f' (t + 1) (m 11 10) s t m4 m2' (by omega) (by omega) s4 s2 ⟨fun c hc => by rw [s3 c (by omega), e3c c (by omega), hk.1 c hc], zmE_tr hk.2 e2⟩ (Or.inr ⟨by omega, by omega, by omega, t0, by omega, k44⟩) (by omega) (by omega)
      refine ⟨v3', b', m1, m1', ?_, ?_, q3⟩
      · rw [FX5_growMost_L15_s]
        unfold FX5_growMost_L15_B
        rw [if_pos n1, zjn_p]
        dsimp only
        rw [if_pos (zlt_i (by omega)), zcpy_p ⟨by rw [hm19]; omega, by omega, by omega, by rw [hm19]; omega, by omega⟩, ← hm3, zcl_p s1, q1]
      · have z : zI v3 < zI s := zlt_i (by omega)
        rw [FX6_grow_L41_s]
        unfold FX6_grow_L41_B
        rw [zcl_p (power6 (by omega)), if_pos n1, zcl2_p e1, zjn_p]
        dsimp only
        rw [if_pos z, if_pos z, q2]
    · have cC : ¬ v2 < m 11 10 := by rcases hi with hi | ⟨i1, i2, i3, i4, i5, i6⟩ <;> omega
      obtain ⟨m4, s1, s2, s3, s4⟩ := step5 hrw hb.1 (by omega) hna t0 (by omega)
      obtain ⟨v3', b', m1, m1', q1, q2, q3⟩ := ih f f' (t + 1) v2 v3 b m4 m2' (by omega) (by omega) s4 s2 ⟨fun c hc => by rw [s3 c (by omega), hk.1 c hc], zmE_tr hk.2 e2⟩ (by
        rcases hi with hi | ⟨i1, i2, i3, i4, i5, i6⟩
        · omega
        · exact Or.inr ⟨i1, i2, i3, i4, i5, fun q q0 q1 => by rw [s3 44 (by omega)]; exact i6 q q0 q1⟩) (by omega) (by omega)
      refine ⟨v3', b', m1, m1', ?_, ?_, q3⟩
      · rw [FX5_growMost_L15_s]
        unfold FX5_growMost_L15_B
        rw [if_pos n1, zjn_p]
        dsimp only
        rw [if_neg (znlt_i (by omega)), zcl_p s1, q1]
      · have z : ¬ zI v3 < zI s := znlt_i (by omega)
        rw [FX6_grow_L41_s]
        unfold FX6_grow_L41_B
        rw [zcl_p (power6 (by omega)), if_pos n1, zcl2_p e1, zjn_p]
        dsimp only
        rw [if_neg z, if_neg z, q2]
theorem zGk_R {m m' : zM} (h : zRel mC mM) (hc : zCI m 11) (hk : zGk mC mM m m') : zRel m m' := zRel_E h ⟨hc, fun c hc => hk.1 c (by omega)⟩ hk.2
theorem S_grow (h : zRel mC mM) : zS_grow zRel mC mM := by
  intro a h1 a2 h2
  have hb : 0 ≤ mC 1 9 ∧ mC 1 9 ≤ 48 := h.t.ct.1
  have b0 := h.t.n
  obtain ⟨r1, p1, p2⟩ := w5 (a := a) (lo := 0) (hi := 3) ⟨h1, by omega, by omega⟩
  obtain ⟨r2, p3, p4⟩ := w6 (a := a) (lo := 0) (hi := 3) ⟨h1, by omega, by omega⟩
  by_cases c : 0 ≤ a ∧ a ≤ 3
  case neg =>
    unfold FX5_grow FX6_grow
    rw [zcl_p p1, zgd_p h1, zcl_p p3, if_pos (zyn_0 p2 c), if_pos (zyn_0 p4 c)]
    exact ⟨_, _, _, rfl, rfl, h⟩
  by_cases c2 : a2 < -1
  · unfold FX5_grow FX6_grow
    rw [zcl_p p1, zgd_p h1, zcl_p p3, if_neg (zyn_1 p2 c), if_neg (zyn_1 p4 c), if_pos (zlt_i (by omega)), if_pos (zlt_i (by omega))]
    exact ⟨_, _, _, rfl, rfl, h⟩
  have n2 : ¬ zI a2 < zI (-1) := znlt_i (by omega)
  by_cases c3 : 48 < mC 1 9 + a
  · unfold FX5_grow FX6_grow
    rw [zcl_p p1, zgd_p h1, zcl_p p3, if_neg (zyn_1 p2 c), if_neg (zyn_1 p4 c), if_neg n2, if_neg n2, if_pos (zlt_i (by omega)), if_pos (zlt_i (by omega))]
    exact ⟨_, _, _, rfl, rfl, h⟩
  have n3 : ¬ zI 48 < zI (mC 1 9 + a) := znlt_i (by omega)
  have n3' : ¬ zI 48 < zI (mM 0 0 + a) := znlt_i (by omega)
  have pb := zpw_b (e := a) (by omega)
  obtain ⟨ms, s1, s2, s3⟩ := start5 h c.1 (by omega)
  obtain ⟨v3, b, m1, m1', q1, q2, q3, q4, q5, q6, q7⟩ := grow_LL h (a := a) (a2 := a2) (K := fun y15_2 y15_4 m15_ => some (y15_2, m15_)) (K' := fun y41_3 y41_4 y41_5 m41_ => zcl (FX6_lay m41_) fun m8 => if zI a2 = zI (-1) then (some (((m8 0 12) + y41_3), m8)) else (if zI a2 < zI a then (zcl (FX6_power ((a - 1) - a2)) fun r9 => zgd (zdg y41_4 r9) <| zgd (zdg (y41_4 / r9) 6) <| some ((97 + ((y41_4 / r9) % 6)), m8)) else (some ((-4), m8)))) c (by omega) (zpw a).toNat zfu zfu 0 (-1) (-1) 0 ms mM (by omega) (by omega) (fun _ => s2) s2.1 ⟨fun c hc => s3 c (by omega), zmE_rf⟩ (Or.inl ⟨rfl, rfl, rfl⟩) (by show _ < 4000; omega) (by show _ < 4000; omega)
  have hR := zGk_R h q3 q4
  obtain ⟨m8, l1, l2, l3, l4⟩ := lay_t hR
  have hG : FX5_growMost a mC = some (v3 + mC 1 10, m1) := by
    unfold FX5_growMost
    rw [zcl_p (rows5 (by omega)), zcl_p s1]
    exact q1
  have sM : FX6_grow a a2 mM = (if zI a2 = zI (-1) then (some (((m8 0 12) + v3), m8)) else (if zI a2 < zI a then (zcl (FX6_power ((a - 1) - a2)) fun r9 => zgd (zdg b r9) <| zgd (zdg (b / r9) 6) <| some ((97 + ((b / r9) % 6)), m8)) else (some ((-4), m8)))) := by
    unfold FX6_grow
    rw [zgd_p h1, zcl_p p3, if_neg (zyn_1 p4 c), if_neg n2, if_neg n3', q2, zcl_p l1]
  rw [sM]
  have e10 : m8 0 12 = mC 1 10 := by rw [l2.2.2.1, q4.1 1 (by omega)]
  by_cases c4 : a2 < a
  · have hC : FX5_grow a a2 mC = (if zI a2 = zI (-1) then (some (v3 + mC 1 10, m1)) else (zrd m1 44 a2 3 fun x3 => some (x3, m1))) := by
      unfold FX5_grow
      rw [zcl_p p1, if_neg (zyn_1 p2 c), if_neg n2, if_neg n3, if_pos (zlt_i (by omega)), zcl2_p hG]
    rw [hC]
    by_cases c5 : a2 = -1
    · have z5 : zI a2 = zI (-1) := by rw [c5]
      rw [if_pos z5, if_pos z5, e10, show mC 1 10 + v3 = v3 + mC 1 10 by omega]
      exact ⟨_, _, _, rfl, rfl, l3⟩
    · have z5 : ¬ zI a2 = zI (-1) := zne_i (by omega)
      have pb2 := zpw_b (e := a - 1 - a2) (by omega)
      have hdv : 0 ≤ b / zpw (a - 1 - a2) ∧ b / zpw (a - 1 - a2) ≤ b := ⟨Int.ediv_nonneg q5 (by omega), Int.ediv_le_self _ q5⟩
      rw [if_neg z5, if_neg z5, zrd_p ⟨by omega, by omega⟩, if_pos (zlt_i (by omega)), zcl_p (power6 (by omega)), zgd_p ⟨by omega, by omega, by omega, by omega⟩, zgd_p ⟨by omega, by omega, by omega, by omega⟩, q7 a2 (by omega) (by omega)]
      exact ⟨_, _, _, rfl, rfl, l3⟩
  · have z5 : ¬ zI a2 = zI (-1) := zne_i (by omega)
    have z6 : ¬ zI a2 < zI a := znlt_i (by omega)
    have hC : FX5_grow a a2 mC = some (-4, mC) := by
      unfold FX5_grow
      rw [zcl_p p1, if_neg (zyn_1 p2 c), if_neg n2, if_neg n3, if_neg z6]
    rw [hC, if_neg z5, if_neg z6]
    exact ⟨_, _, _, rfl, rfl, zRel_E h (zcE_rf h) (zmE_tr q4.2 (zmE_lf l4))⟩
theorem odds_LL (h : zRel mC mM) {a am a3 : Int} {K : Int → Int → zM → Option (Int × zM)} {K' : Int → Int → zM → Option (Int × zM)} (ha : 0 ≤ a ∧ a ≤ 4) (hm : 0 ≤ am ∧ am ≤ 9) (hna : mC 1 9 + a ≤ 48) : ∀ (r f f' : Nat) (t v : Int) (m m' : zM), 0 ≤ t → t + r = zpw a → (t < zpw a → zRw m (mC 2) (mC 1 9) a t) → zCI m 11 → zGk mC mM m m' → 0 ≤ v → v ≤ t → r < f → r < f' →
    ∃ v' m1 m1', FX5_rowsThatBring_L16 a am (zpw a) K f v t m = K v' (zpw a) m1 ∧ FX6_odds_L62 a am a3 (zpw a) K' f' v t m' = K' v' (zpw a) m1' ∧ zCI m1 11 ∧ zGk mC mM m1 m1' ∧ 0 ≤ v' ∧ v' ≤ zpw a := by
  have hb : 0 ≤ mC 1 9 ∧ mC 1 9 ≤ 48 := h.t.ct.1
  have hN : 0 ≤ mC 1 10 ∧ mC 1 10 ≤ mC 1 9 ∧ mC 1 9 ≤ 48 := zci_N h.t.ct
  have b0 := h.t.n
  have pb := zpw_b (e := a) (by omega)
  intro r
  induction r with
  | zero =>
    intro f f' t v m m' t0 t1 hr hc hk v0 v1 hf hf'
    obtain ⟨f, rfl⟩ : ∃ g, f = g + 1 := ⟨f - 1, by omega⟩
    obtain ⟨f', rfl⟩ : ∃ g, f' = g + 1 := ⟨f' - 1, by omega⟩
    refine ⟨v, m, m', ?_, ?_, hc, hk, v0, by omega⟩
    · rw [FX5_rowsThatBring_L16_s]; unfold FX5_rowsThatBring_L16_B; rw [if_neg (znlt_i (by omega)), show t = zpw a by omega]
    · rw [FX6_odds_L62_s]; unfold FX6_odds_L62_B; rw [if_neg (znlt_i (by omega)), show t = zpw a by omega]
  | succ r ih =>
    intro f f' t v m m' t0 t1 hr hc hk v0 v1 hf hf'
    obtain ⟨f, rfl⟩ : ∃ g, f = g + 1 := ⟨f - 1, by omega⟩
    obtain ⟨f', rfl⟩ : ∃ g, f' = g + 1 := ⟨f' - 1, by omega⟩
    have hrw := hr (by omega)
    have hT' : zTm m' := by
      obtain ⟨T1, T2, T3⟩ := h.t.T
      refine ⟨by rw [hk.2.2.1]; exact T1, by rw [hk.2.2.1]; exact T2, fun i i0 i1 => ?_⟩
      rw [hk.2.2.1] at i1
      rw [hk.2.2.2.2.2 i i0 i1]
      exact T3 i i0 i1
    have hx' : ∀ q, 0 ≤ q → q < mC 1 9 → mC 2 q = zx m' q := fun q q0 q1 => by
      unfold zx
      rw [hk.2.2.2.2.2 q q0 (by omega)]
      exact h.t.x q q0 q1
    have hNN : mC 1 10 = zct (zNw (zx m')) (mC 1 9).toNat := by
      have := zNd_ct (zNd_cg h.t.ct.2.2.1 (fun i i0 i1 => hx' i i0 i1)) hb.1
      exact this
    obtain ⟨m2', e1, e2, e3, e4⟩ := more6 (mM := m') hrw (by rw [hk.2.2.1, b0]) hT' hx' (by omega) hna (by omega) hNN
    obtain ⟨m4, s1, s2, s3, s4⟩ := step5 hrw hb.1 (by omega) hna t0 (by omega)
    have hm1 : m 1 = mC 1 := hk.1 1 (by omega)
    have n1 : zI t < zI (zpw a) := zlt_i (by omega)
    have hk4 : zGk mC mM m4 m2' := ⟨fun c hc => by rw [s3 c (by omega), hk.1 c hc], zmE_tr hk.2 e2⟩
    by_cases c : m 11 10 - mC 1 10 < am
    · have z : zI (m 11 10 - mC 1 10) < zI am := zlt_i (by omega)
      obtain ⟨v', m1, m1', q1, q2, q3⟩ := ih f f' (t + 1) v m4 m2' (by omega) (by omega) s4 s2 hk4 v0 (by omega) (by omega) (by omega)
      refine ⟨v', m1, m1', ?_, ?_, q3⟩
      · rw [FX5_rowsThatBring_L16_s]
        unfold FX5_rowsThatBring_L16_B
        rw [if_pos n1, zjn_p, hm1]
        dsimp only
        rw [if_pos z, zcl_p s1, q1]
      · rw [FX6_odds_L62_s]
        unfold FX6_odds_L62_B
        rw [if_pos n1, zcl2_p e1, if_pos z, show v + 0 = v by omega, q2]
    · have z : ¬ zI (m 11 10 - mC 1 10) < zI am := znlt_i (by omega)
      obtain ⟨v', m1, m1', q1, q2, q3⟩ := ih f f' (t + 1) (v + 1) m4 m2' (by omega) (by omega) s4 s2 hk4 (by omega) (by omega) (by omega) (by omega)
      refine ⟨v', m1, m1', ?_, ?_, q3⟩
      · rw [FX5_rowsThatBring_L16_s]
        unfold FX5_rowsThatBring_L16_B
        rw [if_pos n1, zjn_p, hm1]
        dsimp only
        rw [if_neg z, zcl_p s1, q1]
      · rw [FX6_odds_L62_s]
        unfold FX6_odds_L62_B
        rw [if_pos n1, zcl2_p e1, if_neg z, q2]
/-- the greatest divisor, in both -/
theorem gcd_LL {a0 a1 a am a3 u d : Int} {mc : zM} {K' : Int → Int → Option (Int × zM)} : ∀ (k : Nat) (P : Int), P = 2 ^ k → ∀ (f f' : Nat) (x y i : Int), 0 ≤ x → x < 2000000 → 0 ≤ y → y < P → y < 2000000 → 1 ≤ x + y → 0 ≤ i → i + 2 * k ≤ 46 → 2 * k + 1 < f → 2 * k + 1 < f' →
    ∃ g, 1 ≤ g ∧ g < 2000000 ∧ FX5_greatestDivisor_L7 a0 a1 (fun y7_2 y7_3 y7_4 => some y7_2) f x y i = some g ∧ FX6_odds_L104 a am a3 u d mc K' f' x y = K' g 0 := by
  have hend : ∀ (f f' : Nat) (x i : Int), 1 ≤ x → x < 2000000 → 0 ≤ i → i ≤ 48 → ∃ g, 1 ≤ g ∧ g < 2000000 ∧ FX5_greatestDivisor_L7 a0 a1 (fun y7_2 y7_3 y7_4 => some y7_2) (f + 1) x 0 i = some g ∧ FX6_odds_L104 a am a3 u d mc K' (f' + 1) x 0 = K' g 0 := fun f f' x i x0 x1 i0 i1 => by
    refine ⟨x, x0, x1, ?_, ?_⟩
    · rw [FX5_greatestDivisor_L7_s]
      unfold FX5_greatestDivisor_L7_B
      by_cases c : i < 48
      · rw [if_pos (zlt_i (by omega)), if_pos rfl]
      · rw [if_neg (znlt_i (by omega))]
    · rw [FX6_odds_L104_s]
      unfold FX6_odds_L104_B
      rw [if_neg (znlt_i (by omega))]
  have hst : ∀ (f f' : Nat) (x y i : Int), 0 ≤ x → x < 2000000 → 1 ≤ y → y < 2000000 → 0 ≤ i → i < 48 → FX5_greatestDivisor_L7 a0 a1 (fun y7_2 y7_3 y7_4 => some y7_2) (f + 1) x y i = FX5_greatestDivisor_L7 a0 a1 (fun y7_2 y7_3 y7_4 => some y7_2) f y (x % y) (i + 1) ∧ FX6_odds_L104 a am a3 u d mc K' (f' + 1) x y = FX6_odds_L104 a am a3 u d mc K' f' y (x % y) := fun f f' x y i x0 x1 y0 y1 i0 i1 => by
    constructor
    · rw [FX5_greatestDivisor_L7_s]
      unfold FX5_greatestDivisor_L7_B
      rw [if_pos (zlt_i (by omega)), if_neg (zne_i (by omega)), zgd_p ⟨by omega, by omega, by omega, by omega⟩]
    · rw [FX6_odds_L104_s]
      unfold FX6_odds_L104_B
      rw [if_pos (zlt_i (by omega)), zgd_p ⟨by omega, by omega, by omega, by omega⟩]
  intro k
  induction k with
  | zero =>
    intro P hP f f' x y i x0 x1 y0 y1 y2 hxy i0 i1 hf hf'
    obtain ⟨f, rfl⟩ : ∃ g, f = g + 1 := ⟨f - 1, by omega⟩
    obtain ⟨f', rfl⟩ : ∃ g, f' = g + 1 := ⟨f' - 1, by omega⟩
    have hP : P = 1 := hP
    have e : y = 0 := by omega
    subst e
    exact hend f f' x i (by omega) x1 i0 (by omega)
  | succ k ih =>
    intro P hP f f' x y i x0 x1 y0 y1 y2 hxy i0 i1 hf hf'
    obtain ⟨f, rfl⟩ : ∃ g, f = g + 2 := ⟨f - 2, by omega⟩
    obtain ⟨f', rfl⟩ : ∃ g, f' = g + 2 := ⟨f' - 2, by omega⟩
    by_cases c : y = 0
    · subst c
      exact hend (f + 1) (f' + 1) x i (by omega) x1 i0 (by omega)
    · obtain ⟨s1, s2⟩ := hst (f + 1) (f' + 1) x y i x0 x1 (by omega) y2 i0 (by omega)
      have z0 := Int.emod_nonneg x c
      have z1 := Int.emod_lt_of_pos x (show 0 < y by omega)
      rw [s1, s2]
      by_cases c2 : x % y = 0
      · rw [c2]
        exact hend f f' y (i + 1) (by omega) y2 (by omega) (by omega)
      · obtain ⟨s3, s4⟩ := hst f f' y (x % y) (i + 1) y0 y2 (by omega) (by omega) (by omega) (by omega)
        have w0 := Int.emod_nonneg y c2
        have w1 := Int.emod_lt_of_pos y (show 0 < x % y by omega)
        have w2 : y % (x % y) ≤ y - x % y := by
          have q : (y - x % y) % (x % y) = y % (x % y) := Int.sub_emod_right _ _
          rw [← q]
          have q2 := Int.emod_def (y - x % y) (x % y)
          have q3 := Int.mul_nonneg z0 (Int.ediv_nonneg (show 0 ≤ y - x % y by omega) z0)
          omega
        rw [s3, s4]
        have hP2 : P = 2 * 2 ^ k := by rw [hP, Int.pow_succ]; omega
        exact ih (2 ^ k) rfl f f' (x % y) (y % (x % y)) (i + 1 + 1) (by omega) (by omega) w0 (by omega) (by omega) (by omega) (by omega) (by omega) (by omega) (by omega)
theorem S_odds (h : zRel mC mM) : zS_odds zRel mC mM := by
  intro a h1 am h2 a3 h3
  have hb : 0 ≤ mC 1 9 ∧ mC 1 9 ≤ 48 := h.t.ct.1
  have b0 := h.t.n
  obtain ⟨r1, p1, p2⟩ := w5 (a := a) (lo := 0) (hi := 4) ⟨h1, by omega, by omega⟩
  obtain ⟨r2, p3, p4⟩ := w6 (a := a) (lo := 0) (hi := 4) ⟨h1, by omega, by omega⟩
  obtain ⟨r3, p5, p6⟩ := w5 (a := am) (lo := 0) (hi := 9) ⟨h2, by omega, by omega⟩
  obtain ⟨r4, p7, p8⟩ := w6 (a := am) (lo := 0) (hi := 9) ⟨h2, by omega, by omega⟩
  obtain ⟨r5, p9, p10⟩ := w5 (a := a3) (lo := 0) (hi := 1) ⟨h3, by omega, by omega⟩
  obtain ⟨r6, p11, p12⟩ := w6 (a := a3) (lo := 0) (hi := 1) ⟨h3, by omega, by omega⟩
  unfold FX5_odds FX6_odds
  rw [zcl_p p1, zgd_p h1, zcl_p p3]
  by_cases c : 0 ≤ a ∧ a ≤ 4
  · rw [if_neg (zyn_1 p2 c), if_neg (zyn_1 p4 c), zcl_p p5, zgd_p (g := zR am) h2, zcl_p p7]
    by_cases c2 : 0 ≤ am ∧ am ≤ 9
    · rw [if_neg (zyn_1 p6 c2), if_neg (zyn_1 p8 c2), zcl_p p9, zgd_p (g := zR a3) h3, zcl_p p11]
      by_cases c3 : 0 ≤ a3 ∧ a3 ≤ 1
      · rw [if_neg (zyn_1 p10 c3), if_neg (zyn_1 p12 c3)]
        by_cases c4 : 48 < mC 1 9 + a
        · rw [if_pos (show zI 48 < zI (mC 1 9 + a) from zlt_i (by omega)), if_pos (show zI 48 < zI (mM 0 0 + a) from zlt_i (by omega))]
          exact ⟨_, _, _, rfl, rfl, h⟩
        · have pb := zpw_b c
          obtain ⟨ms, s1, s2, s3⟩ := start5 h c.1 (by omega)
          obtain ⟨v, m1, m1', q1, q2, q3, q4, q5, q6⟩ := odds_LL h (a := a) (am := am) (a3 := a3) (K := fun y16_3 y16_5 m16_ => some (y16_3, m16_)) (K' := fun y62_4 y62_6 m62_ => FX6_odds_L104 a am a3 y62_4 (zpw a) m62_ (fun y104_6 y104_7 => if zI a3 = zI 0 then (zgd (zdg y62_4 y104_6) <| some ((y62_4 / y104_6), m62_)) else (zgd (zdg (zpw a) y104_6) <| some (((zpw a) / y104_6), m62_))) zfu y62_4 (zpw a)) c c2 (by omega) (zpw a).toNat zfu zfu 0 0 ms mM (by omega) (by omega) (fun _ => s2) s2.1 ⟨fun c hc => s3 c (by omega), zmE_rf⟩ (by omega) (by omega) (by show _ < 4000; omega) (by show _ < 4000; omega)
          have hR := zGk_R h q3 q4
          have hB : FX5_rowsThatBring a am mC = some (v, m1) := by
            unfold FX5_rowsThatBring
            rw [zcl_p (rows5 c), zcl_p s1]
            exact q1
          obtain ⟨g, g1, g2, g3, g4⟩ := gcd_LL (a0 := v) (a1 := zpw a) (a := a) (am := am) (a3 := a3) (u := v) (d := zpw a) (mc := m1') (K' := fun y104_6 y104_7 => if zI a3 = zI 0 then (zgd (zdg v y104_6) <| some ((v / y104_6), m1')) else (zgd (zdg (zpw a) y104_6) <| some (((zpw a) / y104_6), m1'))) 11 2048 rfl zfu zfu v (zpw a) 0 (by omega) (by omega) (by omega) (by omega) (by omega) (by omega) (by omega) (by omega) (by show _ < 4000; omega) (by show _ < 4000; omega)
          have hg : FX5_greatestDivisor v (zpw a) = some g := g3
          rw [if_neg (show ¬ zI 48 < zI (mC 1 9 + a) from znlt_i (by omega)), if_neg (show ¬ zI 48 < zI (mM 0 0 + a) from znlt_i (by omega)), zcl_p (rows5 c), zcl2_p hB, zcl_p hg, if_neg (show ¬ zI g < zI 1 from znlt_i (by omega)), zcl_p (power6 c), q2, g4]
          have d1 : zdg v g := ⟨by omega, by omega, by omega, by omega⟩
          have d2 : zdg (zpw a) g := ⟨by omega, by omega, by omega, by omega⟩
          by_cases c6 : a3 = 0
          · have z6 : zI a3 = zI 0 := by rw [c6]
            rw [if_pos z6, if_pos z6, zgd_p d1, zgd_p d1]
            exact ⟨_, _, _, rfl, rfl, hR⟩
          · have z6 : ¬ zI a3 = zI 0 := zne_i (by omega)
            rw [if_neg z6, if_neg z6, zgd_p d2, zgd_p d2]
            exact ⟨_, _, _, rfl, rfl, hR⟩
      · rw [if_pos (zyn_0 p10 c3), if_pos (zyn_0 p12 c3)]
        exact ⟨_, _, _, rfl, rfl, h⟩
    · rw [if_pos (zyn_0 p6 c2), if_pos (zyn_0 p8 c2)]
      exact ⟨_, _, _, rfl, rfl, h⟩
  · rw [if_pos (zyn_0 p2 c), if_pos (zyn_0 p4 c)]
    exact ⟨_, _, _, rfl, rfl, h⟩
end GO
