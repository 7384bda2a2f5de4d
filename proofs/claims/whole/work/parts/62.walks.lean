/-! walks -/
/-- the text that is tried out, in both -/
def zTw (mC mM : zM) : Prop := zCI mC 11 ∧ mM 0 0 = mC 11 9 ∧ ∀ i, 0 ≤ i → i < mC 11 9 → mC 12 i = zx mM i
def zWf (mM mM' : zM) : Prop := (∀ c : Nat, 2 ≤ c → mM' c = mM c) ∧ ∀ i : Int, i ≠ 0 → mM' 0 i = mM 0 i
theorem zWf_tr {m m' m'' : zM} (h : zWf m m') (h' : zWf m' m'') : zWf m m'' := ⟨fun c hc => (h'.1 c hc).trans (h.1 c hc), fun i hi => (h'.2 i hi).trans (h.2 i hi)⟩
section WA
variable {mC mM : zM}
theorem addW (t : zTw mC mM) (hn : mC 11 9 < 48) {c : Int} (hc : 0 ≤ c ∧ c ≤ 5) : ∃ r mC' mM', FX1_add 11 (97 + c) mC = some (r, mC') ∧ FX6_push c mM = some mM' ∧ zTw mC' mM' ∧ mC' 11 9 = mC 11 9 + 1 ∧ zfr 11 mC mC' ∧ zWf mM mM' := by
  obtain ⟨t1, t2, t3⟩ := t
  have hb : 0 ≤ mC 11 9 ∧ mC 11 9 ≤ 48 := t1.1
  obtain ⟨r, mC', a1, a2, a3, a4, a5, a6, a7⟩ := add_spec t1 (a := 97 + c) hn (by omega)
  have a4 : mC' 12 = zuf (mC 12) (mC 11 9) (97 + c) := a4
  refine ⟨r, mC', _, a1, push_spec (by omega), ⟨a2, ?_, fun i i0 i1 => ?_⟩, a3, a6, fun c hc => ?_, fun i hi => ?_⟩
  · rw [zup_c, zuf_e, a3, t2]
  · unfold zx
    rw [zup_o _ _ _ (show (1 : Nat) ≠ 0 by omega), zup_c, a4, t2]
    by_cases e : i = mC 11 9
    · subst e; rw [zuf_e, zuf_e]
    · rw [zuf_d _ _ e, zuf_d _ _ e]; exact t3 i i0 (by omega)
  · rw [zup_o _ _ _ (by omega), zup_o _ _ _ (by omega)]
  · rw [zup_c, zuf_d _ _ hi, zup_o _ _ _ (by omega)]
theorem remW (t : zTw mC mM) (hn : 1 ≤ mC 11 9) : ∃ mC', FX1_removeLast 11 mC = some mC' ∧ zTw mC' (zup mM 0 0 (mM 0 0 - 1)) ∧ mC' 11 9 = mC 11 9 - 1 ∧ zfr 11 mC mC' ∧ zWf mM (zup mM 0 0 (mM 0 0 - 1)) := by
  obtain ⟨t1, t2, t3⟩ := t
  obtain ⟨mC', a1, a2, a3, a4, a5⟩ := rem_spec t1 hn
  have a4 : mC' 12 = mC 12 := a4
  refine ⟨mC', a1, ⟨a2, ?_, fun i i0 i1 => ?_⟩, a3, a5, fun c hc => zup_o _ _ _ (by omega), fun i hi => by rw [zup_c, zuf_d _ _ hi]⟩
  · rw [zup_c, zuf_e, a3, t2]
  · unfold zx
    rw [zup_o _ _ _ (show (1 : Nat) ≠ 0 by omega), a4]
    exact t3 i i0 (by omega)
theorem walks_LL {a1 a2 a3 k4 : Int} {K K' : Int → Int → zM → Option (Int × zM)} (ha : a1 ≤ 60) : ∀ (r f : Nat) (x i : Int) (mC mM : zM), zTw mC mM → 0 ≤ x → x < 2147483647 → 0 ≤ i → i + r = a1 → r < f →
    ∃ x' mC' mM', FX5_walks_L60 a1 a2 a3 K f x i mC = K x' a1 mC' ∧ FX6_walks_L64 a1 a2 a3 k4 K' f x i mM = K' x' a1 mM' ∧ zTw mC' mM' ∧ zfr 11 mC mC' ∧ zWf mM mM' := by
  intro r
  induction r with
  | zero =>
    intro f x i mC mM t x0 x1 i0 i1 hf
    obtain ⟨f, rfl⟩ : ∃ g, f = g + 1 := ⟨f - 1, by omega⟩
    refine ⟨x, mC, mM, ?_, ?_, t, zfr_rf, fun _ _ => rfl, fun _ _ => rfl⟩
    · rw [FX5_walks_L60_s]; unfold FX5_walks_L60_B; rw [if_neg (znlt_i (by omega)), show i = a1 by omega]
    · rw [FX6_walks_L64_s]; unfold FX6_walks_L64_B; rw [if_neg (znlt_i (by omega)), show i = a1 by omega]
  | succ r ih =>
    intro f x i mC mM t x0 x1 i0 i1 hf
    obtain ⟨f, rfl⟩ : ∃ g, f = g + 1 := ⟨f - 1, by omega⟩
    have hb : 0 ≤ mC 11 9 ∧ mC 11 9 ≤ 48 := t.1.1
    have b0 := t.2.1
    obtain ⟨y, hy⟩ : ∃ y, y = 16807 * x % 2147483647 := ⟨_, rfl⟩
    have y0 : 0 ≤ y ∧ y < 2147483647 := by omega
    have g1 : zlg (16807 * x) 2147483647 := ⟨by omega, by omega, by omega, by omega⟩
    have g2 : zlg y 64 := ⟨by omega, by omega, by omega, by omega⟩
    have g3 : zlg (y / 64) 4 := ⟨by omega, by omega, by omega, by omega⟩
    have g4 : zlg y 6 := ⟨by omega, by omega, by omega, by omega⟩
    have n0 : zI i < zI a1 := zlt_i (by omega)
    -- one off
    have hoff : 1 ≤ mC 11 9 → ∃ x' mC' mM', (zcl (FX1_removeLast 11 mC) fun m9 => FX5_walks_L60 a1 a2 a3 K f y (i + 1) m9) = K x' a1 mC' ∧ (zpf mM 0 0 ((mM 0 0) - 1) fun m12 => FX6_walks_L64 a1 a2 a3 k4 K' f y (i + 1) m12) = K' x' a1 mM' ∧ zTw mC' mM' ∧ zfr 11 mC mC' ∧ zWf mM mM' := fun hn => by
      obtain ⟨mC1, d1, d2, d3, d4, d5⟩ := remW t hn
      obtain ⟨x', mC', mM', e1, e2, e3, e4, e5⟩ := ih f y (i + 1) mC1 _ d2 y0.1 y0.2 (by omega) (by omega) (by omega)
      exact ⟨x', mC', mM', by rw [zcl_p d1, e1], by rw [zpf_p, e2], e3, zfr_tr d4 e4, zWf_tr d5 e5⟩
    have hon : mC 11 9 < 48 → ∃ x' mC' mM', (zgd (zlg y 6) <| zcl2 (FX1_add 11 (97 + (zw (y % 6))) mC) fun r11 m11 => FX5_walks_L60 a1 a2 a3 K f y (i + 1) m11) = K x' a1 mC' ∧ (zgd (zlg y 6) <| zcl (FX6_push (zw (y % 6)) mM) fun m14 => FX6_walks_L64 a1 a2 a3 k4 K' f y (i + 1) m14) = K' x' a1 mM' ∧ zTw mC' mM' ∧ zfr 11 mC mC' ∧ zWf mM mM' := fun hn => by
      obtain ⟨r', mC1, mM1, d1, d2, d3, d4, d5, d6⟩ := addW t hn (c := y % 6) (by omega)
      obtain ⟨x', mC', mM', e1, e2, e3, e4, e5⟩ := ih f y (i + 1) mC1 mM1 d3 y0.1 y0.2 (by omega) (by omega) (by omega)
      refine ⟨x', mC', mM', ?_, ?_, e3, zfr_tr d5 e4, zWf_tr d6 e5⟩
      · rw [zgd_p g4, zw_id (by omega), zcl2_p d1, e1]
      · rw [zgd_p g4, zw_id (by omega), zcl_p d2, e2]
    have h48 : mC 11 9 ≠ 48 → ¬ zI (mC 11 9) = zI 48 := fun c => zne_i (by omega)
    have hj : y / 64 % 4 ≠ 0 → ¬ zJ (y / 64 % 4) = zJ 0 := fun c => zne_j (by omega)
    have hlt : 0 < mC 11 9 → zI 0 < zI (mC 11 9) := fun c => zlt_i (by omega)
    have hnlt : ¬ 0 < mC 11 9 → ¬ zI 0 < zI (mC 11 9) := fun c => znlt_i (by omega)
    have h1 : mC 11 9 = 48 → 1 ≤ mC 11 9 := fun c => by omega
    have h2 : mC 11 9 ≠ 48 → mC 11 9 < 48 := fun c => by omega
    have h3 : 0 < mC 11 9 → 1 ≤ mC 11 9 := fun c => by omega
    rw [FX5_walks_L60_s, FX6_walks_L64_s]
    unfold FX5_walks_L60_B FX6_walks_L64_B
    rw [if_pos n0, if_pos n0, ← hy, zgd_p g1, zgd_p g1, zgd_p g2, zgd_p g2, zgd_p g3, zgd_p g3]
    simp only [zjn_p]
    rw [b0]
    rw [b0] at hoff
    by_cases c1 : y / 64 % 4 = 0 ∧ 0 < mC 11 9
    · rw [if_pos (show zJ (y / 64 % 4) = zJ 0 by rw [c1.1]), if_pos (show zJ (y / 64 % 4) = zJ 0 by rw [c1.1]), if_pos (hlt c1.2), if_pos (hlt c1.2), if_neg zI_ne10]
      exact hoff (h3 c1.2)
    · have key : ∀ (A B : Option (Int × zM)), (if zJ (y / 64 % 4) = zJ 0 then (if zI 0 < zI (mC 11 9) then A else B) else B) = B := fun A B => by
        by_cases c2 : y / 64 % 4 = 0
        · have c3 : ¬ 0 < mC 11 9 := fun q => c1 ⟨c2, q⟩
          rw [if_pos (show zJ (y / 64 % 4) = zJ 0 by rw [c2]), if_neg (hnlt c3)]
        · rw [if_neg (hj c2)]
      rw [key, key, if_pos (by first | exact True.intro | rfl)]
      by_cases c4 : mC 11 9 = 48
      · rw [if_pos (show zI (mC 11 9) = zI 48 by rw [c4]), if_pos (show zI (mC 11 9) = zI 48 by rw [c4])]
        exact hoff (h1 c4)
      · rw [if_neg (h48 c4), if_neg (h48 c4)]
        exact hon (h2 c4)
theorem S_walks (h : zRel mC mM) : zS_walks zRel mC mM := by
  intro a1 h1 a2 h2 a3 h3
  have hb : 0 ≤ mC 1 9 ∧ mC 1 9 ≤ 48 := h.t.ct.1
  have b0 := h.t.n
  obtain ⟨r1, p1, p2⟩ := w5 (a := a1) (lo := 0) (hi := 60) ⟨h1, by omega, by omega⟩
  obtain ⟨r2, p3, p4⟩ := w6 (a := a1) (lo := 0) (hi := 60) ⟨h1, by omega, by omega⟩
  obtain ⟨r3, p5, p6⟩ := w5 (a := a2) (lo := 1) (hi := 999999) ⟨h2, by omega, by omega⟩
  obtain ⟨r4, p7, p8⟩ := w6 (a := a2) (lo := 1) (hi := 999999) ⟨h2, by omega, by omega⟩
  obtain ⟨r5, p9, p10⟩ := w5 (a := a3) (lo := 0) (hi := 1) ⟨h3, by omega, by omega⟩
  obtain ⟨r6, p11, p12⟩ := w6 (a := a3) (lo := 0) (hi := 1) ⟨h3, by omega, by omega⟩
  unfold FX5_walks FX6_walks
  rw [zcl_p p1, zgd_p h1, zcl_p p3]
  by_cases c : 0 ≤ a1 ∧ a1 ≤ 60
  · rw [if_neg (zyn_1 p2 c), if_neg (zyn_1 p4 c), zcl_p p5, zgd_p (g := zR a2) h2, zcl_p p7]
    by_cases c2 : 1 ≤ a2 ∧ a2 ≤ 999999
    · rw [if_neg (zyn_1 p6 c2), if_neg (zyn_1 p8 c2), zcl_p p9, zgd_p (g := zR a3) h3, zcl_p p11]
      by_cases c3 : 0 ≤ a3 ∧ a3 ≤ 1
      · obtain ⟨m4, d1, d2, d3, d4, d5, d6⟩ := trial_t h
        obtain ⟨m7, hm7⟩ : ∃ q, q = zuc mM 14 (zcp (mM 1) (mM 14) 0 0 (mM 0 0)) := ⟨_, rfl⟩
        have e7 : ∀ c : Nat, c ≠ 14 → m7 c = mM c := fun c hc => by rw [hm7, zuc_ne _ _ hc]
        have tw : zTw m4 m7 := ⟨d2, by rw [e7 0 (by omega), d3, b0], fun i i0 i1 => by
          unfold zx
          rw [e7 1 (by omega), d4 i i0 (by omega)]
          exact h.t.x i i0 (by omega)⟩
        obtain ⟨x', mC', mM', q1, q2, q3, q4, q5⟩ := walks_LL (a1 := a1) (a2 := a2) (a3 := a3) (k4 := mM 0 0) (K := fun y60_4 y60_6 m60_ => if zI a3 = zI 0 then (some ((m60_ 11 10), m60_)) else (some ((m60_ 11 9), m60_))) (K' := fun y64_5 y64_7 m64_ => zcl (FX6_lay m64_) fun m19 => zjn (fun (s162_0 : Int) => zpf m19 0 0 (mM 0 0) fun m20 => zcl (FX6_bring 14 48 0 1 48 0 (mM 0 0) m20) fun m21 => some (s162_0, m21)) fun j162 => if zI a3 = zI 0 then (j162 (m19 0 12)) else (j162 (m19 0 0))) (by omega) a1.toNat zfu a2 0 m4 m7 tw (by omega) (by omega) (by omega) (by omega) (by show _ < 4000; omega)
        obtain ⟨q31, q32, q33⟩ := q3
        have q31' : zci (mC' 12) (mC' 13) (mC' 14) (mC' 15) (mC' 16) (mC' 17) (mC' 18) (mC' 19) (mC' 20) (mC' 11 9) (mC' 11 10) := q31
        obtain ⟨m19, l1, l2, l3⟩ := zLd_lay q31' q32 q33
        have lb : FX6_bring 14 48 0 1 48 0 (mM 0 0) (zup m19 0 0 (mM 0 0)) = some (zuc (zup m19 0 0 (mM 0 0)) 1 (zcp (zup m19 0 0 (mM 0 0) 14) (zup m19 0 0 (mM 0 0) 1) 0 0 (mM 0 0))) := bring_spec (Or.inl (by omega)) (by omega) (by omega) (by omega) (by omega) (by omega) (by omega)
        rw [if_neg (zyn_1 p10 c3), if_neg (zyn_1 p12 c3), zcl_p d1, zgd_p (g := zR a2) h2, zcl_p (bring_spec (Or.inl (by omega)) (by omega) (by omega) (by omega) (by omega) (by omega) (by omega)), ← hm7, zgd_p (g := zR a2) h2, q1, q2]
        rw [zcl_p l1]
        simp only [zjn_p, zpf_p]
        rw [zcl_p lb, zcl_p lb]
        have hE : zcE mC mC' := zcE_fr q31 (zfr_tr d5 q4)
        obtain ⟨m21, hm21⟩ : ∃ q, q = zuc (zup m19 0 0 (mM 0 0)) 1 (zcp (zup m19 0 0 (mM 0 0) 14) (zup m19 0 0 (mM 0 0) 1) 0 0 (mM 0 0)) := ⟨_, rfl⟩
        rw [← hm21]
        have hE2 : zmE mM m21 := by
          refine ⟨fun c c1 c2 => ?_, ?_, ?_, ?_, fun i i0 i1 => ?_⟩
          · rw [hm21, zuc_ne _ _ (by omega), zup_o _ _ _ (by omega), l3.1 c (by omega) (by omega) (by omega), q5.1 c (by omega), e7 c (by omega)]
          · rw [hm21, zuc_ne _ _ (by omega), zup_c, zuf_e]
          · rw [hm21, zuc_ne _ _ (by omega), zup_c, zuf_d _ _ (by omega), l3.2 2 (by omega), q5.2 2 (by omega), e7 0 (by omega)]
          · rw [hm21, zuc_ne _ _ (by omega), zup_c, zuf_d _ _ (by omega), l3.2 6 (by omega), q5.2 6 (by omega), e7 0 (by omega)]
          · rw [hm21, zuc_at, zcp_in _ _ (by omega), zup_o _ _ _ (by omega), l3.1 14 (by omega) (by omega) (by omega), q5.1 14 (by omega), hm7, zuc_at, zcp_in _ _ (by omega), show 0 + (0 + (i - 0) - 0) = i by omega]
        have hR := zRel_E h hE hE2
        by_cases c6 : a3 = 0
        · have z6 : zI a3 = zI 0 := by rw [c6]
          rw [if_pos z6, if_pos z6, l2.2.2.1]
          exact ⟨_, _, _, rfl, rfl, hR⟩
        · have z6 : ¬ zI a3 = zI 0 := zne_i (by omega)
          rw [if_neg z6, if_neg z6, l3.2 0 (by omega), q32]
          exact ⟨_, _, _, rfl, rfl, hR⟩
      · rw [if_pos (zyn_0 p10 c3), if_pos (zyn_0 p12 c3)]
        exact ⟨_, _, _, rfl, rfl, h⟩
    · rw [if_pos (zyn_0 p6 c2), if_pos (zyn_0 p8 c2)]
      exact ⟨_, _, _, rfl, rfl, h⟩
  · rw [if_pos (zyn_0 p2 c), if_pos (zyn_0 p4 c)]
    exact ⟨_, _, _, rfl, rfl, h⟩
end WA
