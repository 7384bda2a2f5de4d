/-! node, groups, ends -/
theorem zsm_s {x y : Int → Int} {i j k n : Int} (hx : ∀ q, 0 ≤ q → q < n → x q = y q) (h1 : 0 ≤ i) (h2 : i + k ≤ n) (h3 : 0 ≤ j) (h4 : j + k ≤ n) : zsm x x i j k ↔ zs y i j k :=
  ⟨fun h d d0 d1 => (hx _ (by omega) (by omega)).symm.trans ((h d d0 d1).trans (hx _ (by omega) (by omega))), fun h d d0 d1 => (hx _ (by omega) (by omega)).trans ((h d d0 d1).trans (hx _ (by omega) (by omega)).symm)⟩
theorem stands6 {m : zM} (h : zTm m) {i k w : Int} (hi : 0 ≤ i) (hk : 1 ≤ k) (hn : i + k ≤ m 0 0) : ∃ l, FX6_stands i k w m = (if zI w = zI 3 then some (zct (fun p => zs (zx m) p i k) (m 0 0 - k + 1).toNat) else some l) ∧ zs (zx m) l i k ∧ 0 ≤ l ∧ l + k ≤ m 0 0 ∧ ∀ p, 0 ≤ p → p + k ≤ m 0 0 → zs (zx m) p i k → p ≤ l := by
  have hb := h.2.1
  unfold FX6_stands
  refine zlo3 (FX6_stands_L9 i k w m (fun y9_4 y9_5 _ => if zI w = zI 3 then some y9_4 else some y9_5)) (fun r c l v => v + r = m 0 0 - k + 1 ∧ 0 ≤ v ∧ c = zct (fun p => zs (zx m) p i k) v.toNat ∧ zs (zx m) l i k ∧ 0 ≤ l ∧ l + k ≤ m 0 0 ∧ ∀ p, 0 ≤ p → p < v → zs (zx m) p i k → p ≤ l) (fun x => ∃ l, x = (if zI w = zI 3 then some (zct (fun p => zs (zx m) p i k) (m 0 0 - k + 1).toNat) else some l) ∧ zs (zx m) l i k ∧ 0 ≤ l ∧ l + k ≤ m 0 0 ∧ ∀ p, 0 ≤ p → p + k ≤ m 0 0 → zs (zx m) p i k → p ≤ l) ?_ ?_ (m 0 0 - k + 1).toNat zfu 0 i 0 ⟨by omega, by omega, rfl, zs_rf, hi, hn, fun p p0 p1 => by omega⟩ (by show _ < 4000; omega)
  · intro f r c l v ⟨i1, i2, i3, i4, i5, i6, i7⟩
    obtain ⟨q, q1, q2⟩ := isSame_spec h (i := v) (j := i) (k := k) (by omega) hi (by omega) (by omega) hn
    rw [FX6_stands_L9_s]
    unfold FX6_stands_L9_B
    rw [if_neg (znlt_i (by omega)), zcl_p q1, zjn_p]
    dsimp only
    have e : zct (fun p => zs (zx m) p i k) (v + 1).toNat = c + zin (zs (zx m) v i k) := by
      rw [show (v + 1).toNat = v.toNat + 1 by omega, zct_s, i3, show ((v.toNat : Nat) : Int) = v by omega]
    by_cases c2 : zs (zx m) v i k
    · have z := zyn_1 q2 c2
      rw [if_neg z, if_neg z]
      refine Or.inr ⟨c + 1, v, v + 1, rfl, by omega, by omega, by rw [e, zin_1 c2], c2, i2, by omega, fun p p0 p1 _ => by omega⟩
    · have z := zyn_0 q2 c2
      rw [if_pos z, if_pos z]
      refine Or.inr ⟨c + 0, l, v + 1, rfl, by omega, by omega, by rw [e, zin_0 c2], i4, i5, i6, fun p p0 p1 hp => ?_⟩
      by_cases e : p = v
      · subst e; exact absurd hp c2
      · exact i7 p p0 (by omega) hp
  · intro f c l v ⟨i1, i2, i3, i4, i5, i6, i7⟩
    rw [FX6_stands_L9_s]
    unfold FX6_stands_L9_B
    rw [if_pos (zlt_i (by omega))]
    exact ⟨l, by rw [i3, show v = m 0 0 - k + 1 by omega], i4, i5, i6, fun p p0 p1 => i7 p p0 (by omega)⟩
theorem last5 {m : zM} {o : Nat} (h : zCI m o) {v : Int} (v0 : 0 ≤ v) (v1 : v < m o 10) : ∃ l, FX1_lastPlace o v m = some l ∧ zsm (m (o + 1)) (m (o + 1)) l (m (o + 7) v - m (o + 3) v + 1) (m (o + 3) v) ∧ 0 ≤ l ∧ l + m (o + 3) v ≤ m o 9 ∧ ∀ p, 0 ≤ p → p + m (o + 3) v ≤ m o 9 → zsm (m (o + 1)) (m (o + 1)) p (m (o + 7) v - m (o + 3) v + 1) (m (o + 3) v) → p ≤ l := by
  have hN := zci_N h
  obtain ⟨z1, z2, z3, z4⟩ := zNd_Z h.2.2.1 v0 v1
  unfold FX1_lastPlace
  rw [zcl_p (fp5 ⟨by omega, by omega⟩), zrd_p ⟨by omega, by omega⟩]
  refine zlo1 (FX1_lastPlace_L18 o v (m (o + 7) v - m (o + 3) v + 1) m (fun _ => some (m (o + 7) v - m (o + 3) v + 1))) (fun r p => p = m (o + 7) v - m (o + 3) v + 1 + r ∧ p + m (o + 3) v ≤ m o 9 ∧ ∀ q, p < q → q + m (o + 3) v ≤ m o 9 → ¬ zsm (m (o + 1)) (m (o + 1)) q (m (o + 7) v - m (o + 3) v + 1) (m (o + 3) v)) (fun x => ∃ l, x = some l ∧ zsm (m (o + 1)) (m (o + 1)) l (m (o + 7) v - m (o + 3) v + 1) (m (o + 3) v) ∧ 0 ≤ l ∧ l + m (o + 3) v ≤ m o 9 ∧ ∀ p, 0 ≤ p → p + m (o + 3) v ≤ m o 9 → zsm (m (o + 1)) (m (o + 1)) p (m (o + 7) v - m (o + 3) v + 1) (m (o + 3) v) → p ≤ l) ?_ ?_ (m o 9 - m (o + 3) v - (m (o + 7) v - m (o + 3) v + 1)).toNat zfu _ ⟨by omega, by omega, fun q q0 q1 => by omega⟩ (by show _ < 4000; omega)
  · intro f r p ⟨i1, i2, i3⟩
    obtain ⟨q, q1, q2⟩ := stands5 (m := m) (o := o) (c := o + 1) (p := p) (j := m (o + 7) v - m (o + 3) v + 1) (k := m (o + 3) v) (by omega) (by omega) (by omega) (by omega) (by omega) (fun i i0 i1 i2' i3' => by
        have := h.2.1 i i0 (by omega); omega) (fun i i0 i1 => by have := h.2.1 i (by omega) (by omega); omega)
    rw [FX1_lastPlace_L18_s]
    unfold FX1_lastPlace_L18_B
    rw [if_pos (zlt_i (by omega)), zrd_p ⟨by omega, by omega⟩, zcl_p q1]
    by_cases c : zsm (m (o + 1)) (m (o + 1)) p (m (o + 7) v - m (o + 3) v + 1) (m (o + 3) v)
    · rw [if_neg (zyn_1 q2 c)]
      refine Or.inl ⟨p, rfl, c, by omega, by omega, fun q q0 q1 hq => ?_⟩
      by_cases e : q ≤ p
      · exact e
      · exact absurd hq (i3 q (by omega) q1)
    · rw [if_pos (zyn_0 q2 c)]
      refine Or.inr ⟨p + -1, rfl, by omega, by omega, fun q q0 q1 hq => ?_⟩
      by_cases e : q = p
      · subst e; exact c hq
      · exact i3 q (by omega) q1 hq
  · intro f p ⟨i1, i2, i3⟩
    rw [FX1_lastPlace_L18_s]
    unfold FX1_lastPlace_L18_B
    rw [if_neg (znlt_i (by omega))]
    refine ⟨_, rfl, fun d _ _ => rfl, by omega, by omega, fun q q0 q1 hq => ?_⟩
    by_cases e : q ≤ p
    · omega
    · exact absurd hq (i3 q (by omega) q1)
theorem zi_ne {a b : Int} (h : -1000 < a ∧ a < 1000 ∧ -1000 < b ∧ b < 1000 ∧ a ≠ b) : ¬ zI a = zI b := zne_i (by omega)
section ND
variable {mC mM : zM}
theorem lay_t (h : zRel mC mM) : ∃ mM', FX6_lay mM = some mM' ∧ zLd mM' (mC 3) (mC 4) (mC 5) (mC 6) (mC 7) (mC 8) (mC 9) (mC 10) (mC 1 10) ∧ zRel mC mM' ∧ zlf mM mM' := by
  obtain ⟨m', a1, a2, a3⟩ := zLd_lay h.t.ct h.t.n (fun i i0 i1 => h.t.x i i0 i1)
  exact ⟨m', a1, a2, zRel_E h (zcE_rf h) (zmE_lf a3), a3⟩
theorem S_node (h : zRel mC mM) : zS_node zRel mC mM := by
  intro a1 h1 a2 h2
  obtain ⟨m1, l1, l2, l3, l4⟩ := lay_t h
  have hN := zci_N h.t.ct
  have hN : 0 ≤ mC 1 10 ∧ mC 1 10 ≤ mC 1 9 ∧ mC 1 9 ≤ 48 := hN
  obtain ⟨r1, p1, p2⟩ := nod5 (m := mC) h1 (by omega)
  obtain ⟨r2, p3, p4⟩ := wi6 (n := m1 0 12) h1 (by rw [l2.2.2.1]; omega)
  obtain ⟨r3, p5, p6⟩ := w6 (a := a2) (lo := 0) (hi := 7) ⟨h2, by omega, by omega⟩
  rw [l2.2.2.1] at p4
  have g1 : zR (m1 0 12 - 1) := by rw [l2.2.2.1]; omega
  by_cases c : 0 ≤ a1 ∧ a1 < mC 1 10
  · obtain ⟨w1, w2⟩ := l2.2.2.2 a1 c.1 c.2
    obtain ⟨z1, z2, z3, z4⟩ := zLd_Z l2 c.1 c.2
    have b0 : m1 0 0 = mC 1 9 := l3.t.n
    have c5 : 0 ≤ a1 ∧ a1 < 50 := by omega
    have c48 : 0 ≤ a1 ∧ a1 < 48 := by omega
    have y1 := zyn_1 p2 c
    have y2 := zyn_1 p4 c
    by_cases c2 : 0 ≤ a2 ∧ a2 ≤ 7
    · have y3 := zyn_1 p6 c2
      rcases (by omega : a2 = 0 ∨ a2 = 1 ∨ a2 = 2 ∨ a2 = 3 ∨ a2 = 4 ∨ a2 = 5 ∨ a2 = 6 ∨ a2 = 7) with rfl | rfl | rfl | rfl | rfl | rfl | rfl | rfl
      · refine ⟨mC 4 a1, m1, ?_, ?_, l3⟩
        · unfold FX5_node; rw [zcl_p p1, if_neg y1, if_pos rfl, zrd_p c5]
        · unfold FX6_node; rw [zcl_p l1, zgd_p h1, zgd_p g1, zcl_p p3, if_neg y2, zgd_p h2, zcl_p p5, if_neg y3, zrd_p c48, zrd_p c48, w1, w2, if_pos rfl]
      · refine ⟨mC 8 a1 + 1 - mC 4 a1, m1, ?_, ?_, l3⟩
        · have q : FX1_firstPlace 1 a1 mC = some (mC 8 a1 - mC 4 a1 + 1) := fp5 c5
          unfold FX5_node; rw [zcl_p p1, if_neg y1, if_neg (zi_ne (a := 1) (b := 0) (by omega)), if_pos rfl, zcl_p q, show mC 8 a1 - mC 4 a1 + 1 = mC 8 a1 + 1 - mC 4 a1 by omega]
        · unfold FX6_node; rw [zcl_p l1, zgd_p h1, zgd_p g1, zcl_p p3, if_neg y2, zgd_p h2, zcl_p p5, if_neg y3, zrd_p c48, zrd_p c48, w1, w2, if_neg (zi_ne (a := 1) (b := 0) (by omega)), if_pos rfl]
      · obtain ⟨l, k1, k2, k3, k4, k5⟩ := last5 h.t.ct c.1 c.2
        have k2 : zsm (mC 2) (mC 2) l (mC 8 a1 - mC 4 a1 + 1) (mC 4 a1) := k2
        have k4 : l + mC 4 a1 ≤ mC 1 9 := k4
        have k5 : ∀ p, 0 ≤ p → p + mC 4 a1 ≤ mC 1 9 → zsm (mC 2) (mC 2) p (mC 8 a1 - mC 4 a1 + 1) (mC 4 a1) → p ≤ l := k5
        obtain ⟨l', j1, j2, j3, j4, j5⟩ := stands6 l2.1 (i := mC 8 a1 + 1 - mC 4 a1) (k := mC 4 a1) (w := 2) (by omega) z1 (by omega)
        have e : l' = l := by
          have q1 := k5 l' j3 (by omega) ((zsm_s (fun q q0 q1 => l3.t.x q q0 q1) j3 (by omega) (by omega) (by omega)).mpr (zs_to j2 rfl (by omega) rfl))
          have q2 := j5 l k3 (by omega) (zs_to ((zsm_s (y := zx m1) (fun q q0 q1 => l3.t.x q q0 q1) k3 (by omega) (by omega) (by omega)).mp k2) rfl (by omega) rfl)
          omega
        subst e
        refine ⟨l', m1, ?_, ?_, l3⟩
        · unfold FX5_node; rw [zcl_p p1, if_neg y1, if_neg (zi_ne (a := 2) (b := 0) (by omega)), if_neg (zi_ne (a := 2) (b := 1) (by omega)), if_pos rfl, zcl_p k1]
        · unfold FX6_node; rw [zcl_p l1, zgd_p h1, zgd_p g1, zcl_p p3, if_neg y2, zgd_p h2, zcl_p p5, if_neg y3, zrd_p c48, zrd_p c48, w1, w2, if_neg (zi_ne (a := 2) (b := 0) (by omega)), if_neg (zi_ne (a := 2) (b := 1) (by omega)), if_pos rfl, j1, if_neg (zi_ne (a := 2) (b := 3) (by omega)), zcl_p rfl]
      · have q : FX1_firstPlace 1 a1 mC = some (mC 8 a1 - mC 4 a1 + 1) := fp5 c5
        have k1 : FX1_places 1 2 48 (mC 8 a1 - mC 4 a1 + 1) (mC 4 a1) mC = some (zct (fun p => zsm (mC 2) (mC 2) p (mC 8 a1 - mC 4 a1 + 1) (mC 4 a1)) (mC 1 9 - mC 4 a1 + 1).toNat) := places5 h.t.ct (by omega) (by omega) z1 (fun i i0 i1 => by have := h.t.ct.2.1 i (by omega) (show i < mC 1 9 by omega); have e : mC (1 + 1) i = mC 2 i := rfl; omega)
        obtain ⟨l', j1, j2, j3, j4, j5⟩ := stands6 l2.1 (i := mC 8 a1 + 1 - mC 4 a1) (k := mC 4 a1) (w := 3) (by omega) z1 (by omega)
        rw [if_pos rfl] at j1
        refine ⟨zct (fun p => zs (zx m1) p (mC 8 a1 + 1 - mC 4 a1) (mC 4 a1)) (m1 0 0 - mC 4 a1 + 1).toNat, m1, ?_, ?_, l3⟩
        · unfold FX5_node; rw [zcl_p p1, if_neg y1, if_neg (zi_ne (a := 3) (b := 0) (by omega)), if_neg (zi_ne (a := 3) (b := 1) (by omega)), if_neg (zi_ne (a := 3) (b := 2) (by omega)), if_pos rfl, zcl_p q, zrd_p c5, zcl_p k1]
          rw [b0]
          refine congrArg some (zct_cg _ (fun i i0 i1 => ?_))
          have q9 := zsm_s (x := mC 2) (y := zx m1) (i := i) (j := mC 8 a1 - mC 4 a1 + 1) (k := mC 4 a1) (fun q q0 q1 => l3.t.x q q0 q1) i0 (by omega) (by omega) (by omega)
          rw [q9, show mC 8 a1 - mC 4 a1 + 1 = mC 8 a1 + 1 - mC 4 a1 by omega]
        · unfold FX6_node; rw [zcl_p l1, zgd_p h1, zgd_p g1, zcl_p p3, if_neg y2, zgd_p h2, zcl_p p5, if_neg y3, zrd_p c48, zrd_p c48, w1, w2, if_neg (zi_ne (a := 3) (b := 0) (by omega)), if_neg (zi_ne (a := 3) (b := 1) (by omega)), if_neg (zi_ne (a := 3) (b := 2) (by omega)), if_pos rfl, zcl_p j1]
      · have hr : zR (mC 5 a1) := by
          have q := lnk_cases l2.2.1 c.1 c.2
          omega
        refine ⟨znn (mC 5 a1), m1, ?_, ?_, l3⟩
        · unfold FX5_node; rw [zcl_p p1, if_neg y1, if_neg (zi_ne (a := 4) (b := 0) (by omega)), if_neg (zi_ne (a := 4) (b := 1) (by omega)), if_neg (zi_ne (a := 4) (b := 2) (by omega)), if_neg (zi_ne (a := 4) (b := 3) (by omega)), if_pos rfl, zrd_p c5, zcl_p (none5 hr)]
        · unfold FX6_node; rw [zcl_p l1, zgd_p h1, zgd_p g1, zcl_p p3, if_neg y2, zgd_p h2, zcl_p p5, if_neg y3, zrd_p c48, zrd_p c48, w1, w2, if_neg (zi_ne (a := 4) (b := 0) (by omega)), if_neg (zi_ne (a := 4) (b := 1) (by omega)), if_neg (zi_ne (a := 4) (b := 2) (by omega)), if_neg (zi_ne (a := 4) (b := 3) (by omega)), if_pos rfl, zcl_p (link6 l2 c.1 c.2)]
      · have q : FX1_less 1 a1 mC = some (mC 4 a1 - mC 4 (mC 5 a1)) := by
          have q := lnk_cases l2.2.1 c.1 c.2
          have e5 : mC (1 + 4) a1 = mC 5 a1 := rfl
          unfold FX1_less
          rw [zrd_p c5, zrd_p c5, zrd_p ⟨by omega, by omega⟩]
        refine ⟨mC 4 a1 - mC 4 (mC 5 a1), m1, ?_, ?_, l3⟩
        · unfold FX5_node; rw [zcl_p p1, if_neg y1, if_neg (zi_ne (a := 5) (b := 0) (by omega)), if_neg (zi_ne (a := 5) (b := 1) (by omega)), if_neg (zi_ne (a := 5) (b := 2) (by omega)), if_neg (zi_ne (a := 5) (b := 3) (by omega)), if_neg (zi_ne (a := 5) (b := 4) (by omega)), if_pos rfl, zcl_p q]
        · unfold FX6_node; rw [zcl_p l1, zgd_p h1, zgd_p g1, zcl_p p3, if_neg y2, zgd_p h2, zcl_p p5, if_neg y3, zrd_p c48, zrd_p c48, w1, w2, if_neg (zi_ne (a := 5) (b := 0) (by omega)), if_neg (zi_ne (a := 5) (b := 1) (by omega)), if_neg (zi_ne (a := 5) (b := 2) (by omega)), if_neg (zi_ne (a := 5) (b := 3) (by omega)), if_neg (zi_ne (a := 5) (b := 4) (by omega)), if_pos rfl, zcl_p (less6 l2 c.1 c.2)]
      · have hr : zR (mC 6 a1) := by
          have q := ser_cases l2.2.1 48 a1 c.1 c.2 (by omega)
          omega
        refine ⟨znn (mC 6 a1), m1, ?_, ?_, l3⟩
        · unfold FX5_node; rw [zcl_p p1, if_neg y1, if_neg (zi_ne (a := 6) (b := 0) (by omega)), if_neg (zi_ne (a := 6) (b := 1) (by omega)), if_neg (zi_ne (a := 6) (b := 2) (by omega)), if_neg (zi_ne (a := 6) (b := 3) (by omega)), if_neg (zi_ne (a := 6) (b := 4) (by omega)), if_neg (zi_ne (a := 6) (b := 5) (by omega)), if_pos rfl, zrd_p c5, zcl_p (none5 hr)]
        · unfold FX6_node; rw [zcl_p l1, zgd_p h1, zgd_p g1, zcl_p p3, if_neg y2, zgd_p h2, zcl_p p5, if_neg y3, zrd_p c48, zrd_p c48, w1, w2, if_neg (zi_ne (a := 6) (b := 0) (by omega)), if_neg (zi_ne (a := 6) (b := 1) (by omega)), if_neg (zi_ne (a := 6) (b := 2) (by omega)), if_neg (zi_ne (a := 6) (b := 3) (by omega)), if_neg (zi_ne (a := 6) (b := 4) (by omega)), if_neg (zi_ne (a := 6) (b := 5) (by omega)), if_pos rfl, zcl_p (series6 l2 c.1 c.2)]
      · rcases l2.2.1.2.2.2.2.2.2.1 a1 c.1 c.2 with ⟨q1, q2⟩ | ⟨q1, q2⟩ | ⟨q1, q2, q3, q4, q5⟩
        · refine ⟨-4, m1, ?_, ?_, l3⟩
          · unfold FX5_node; rw [zcl_p p1, if_neg y1, if_neg (zi_ne (a := 7) (b := 0) (by omega)), if_neg (zi_ne (a := 7) (b := 1) (by omega)), if_neg (zi_ne (a := 7) (b := 2) (by omega)), if_neg (zi_ne (a := 7) (b := 3) (by omega)), if_neg (zi_ne (a := 7) (b := 4) (by omega)), if_neg (zi_ne (a := 7) (b := 5) (by omega)), if_neg (zi_ne (a := 7) (b := 6) (by omega)), if_pos rfl, zrd_p c5, q2, zcl_p (none5 (by omega)), znn_b (by omega)]
          · unfold FX6_node; rw [zcl_p l1, zgd_p h1, zgd_p g1, zcl_p p3, if_neg y2, zgd_p h2, zcl_p p5, if_neg y3, zrd_p c48, zrd_p c48, w1, w2, if_neg (zi_ne (a := 7) (b := 0) (by omega)), if_neg (zi_ne (a := 7) (b := 1) (by omega)), if_neg (zi_ne (a := 7) (b := 2) (by omega)), if_neg (zi_ne (a := 7) (b := 3) (by omega)), if_neg (zi_ne (a := 7) (b := 4) (by omega)), if_neg (zi_ne (a := 7) (b := 5) (by omega)), if_neg (zi_ne (a := 7) (b := 6) (by omega)), if_pos (zlt_i (by omega))]
        · refine ⟨-4, m1, ?_, ?_, l3⟩
          · unfold FX5_node; rw [zcl_p p1, if_neg y1, if_neg (zi_ne (a := 7) (b := 0) (by omega)), if_neg (zi_ne (a := 7) (b := 1) (by omega)), if_neg (zi_ne (a := 7) (b := 2) (by omega)), if_neg (zi_ne (a := 7) (b := 3) (by omega)), if_neg (zi_ne (a := 7) (b := 4) (by omega)), if_neg (zi_ne (a := 7) (b := 5) (by omega)), if_neg (zi_ne (a := 7) (b := 6) (by omega)), if_pos rfl, zrd_p c5, q2, zcl_p (none5 (by omega)), znn_b (by omega)]
          · unfold FX6_node; rw [zcl_p l1, zgd_p h1, zgd_p g1, zcl_p p3, if_neg y2, zgd_p h2, zcl_p p5, if_neg y3, zrd_p c48, zrd_p c48, w1, w2, if_neg (zi_ne (a := 7) (b := 0) (by omega)), if_neg (zi_ne (a := 7) (b := 1) (by omega)), if_neg (zi_ne (a := 7) (b := 2) (by omega)), if_neg (zi_ne (a := 7) (b := 3) (by omega)), if_neg (zi_ne (a := 7) (b := 4) (by omega)), if_neg (zi_ne (a := 7) (b := 5) (by omega)), if_neg (zi_ne (a := 7) (b := 6) (by omega)), if_pos (zlt_i (by omega))]
        · refine ⟨mC 7 a1, m1, ?_, ?_, l3⟩
          · unfold FX5_node; rw [zcl_p p1, if_neg y1, if_neg (zi_ne (a := 7) (b := 0) (by omega)), if_neg (zi_ne (a := 7) (b := 1) (by omega)), if_neg (zi_ne (a := 7) (b := 2) (by omega)), if_neg (zi_ne (a := 7) (b := 3) (by omega)), if_neg (zi_ne (a := 7) (b := 4) (by omega)), if_neg (zi_ne (a := 7) (b := 5) (by omega)), if_neg (zi_ne (a := 7) (b := 6) (by omega)), if_pos rfl, zrd_p c5, zcl_p (none5 (by omega)), znn_a (by omega)]
          · unfold FX6_node; rw [zcl_p l1, zgd_p h1, zgd_p g1, zcl_p p3, if_neg y2, zgd_p h2, zcl_p p5, if_neg y3, zrd_p c48, zrd_p c48, w1, w2, if_neg (zi_ne (a := 7) (b := 0) (by omega)), if_neg (zi_ne (a := 7) (b := 1) (by omega)), if_neg (zi_ne (a := 7) (b := 2) (by omega)), if_neg (zi_ne (a := 7) (b := 3) (by omega)), if_neg (zi_ne (a := 7) (b := 4) (by omega)), if_neg (zi_ne (a := 7) (b := 5) (by omega)), if_neg (zi_ne (a := 7) (b := 6) (by omega)), if_neg (znlt_i (by omega)), zcl_p (nodeOf6 l2 q2 q3 q4 (zs_to q5 rfl (by omega) rfl) (by omega) (by omega))]
    · have e : ∀ k : Int, 0 ≤ k → k ≤ 7 → ¬ zI a2 = zI k := fun k k0 k1 => zne_i (by omega)
      refine ⟨-1, m1, ?_, ?_, l3⟩
      · unfold FX5_node; rw [zcl_p p1, if_neg y1, if_neg (e 0 (by omega) (by omega)), if_neg (e 1 (by omega) (by omega)), if_neg (e 2 (by omega) (by omega)), if_neg (e 3 (by omega) (by omega)), if_neg (e 4 (by omega) (by omega)), if_neg (e 5 (by omega) (by omega)), if_neg (e 6 (by omega) (by omega)), if_neg (e 7 (by omega) (by omega))]
      · unfold FX6_node; rw [zcl_p l1, zgd_p h1, zgd_p g1, zcl_p p3, if_neg y2, zgd_p h2, zcl_p p5, if_pos (zyn_0 p6 c2)]
  · refine ⟨-1, m1, ?_, ?_, l3⟩
    · unfold FX5_node; rw [zcl_p p1, if_pos (zyn_0 p2 c)]
    · unfold FX6_node; rw [zcl_p l1, zgd_p h1, zgd_p g1, zcl_p p3, if_pos (zyn_0 p4 c)]
end ND
