/-! groups, ends, find, times -/
section GR
variable {mC mM : zM}
theorem groups_LL {m1 : zM} {a1 : Int} (h : zCI mC 1) (l2 : zLd m1 (mC 3) (mC 4) (mC 5) (mC 6) (mC 7) (mC 8) (mC 9) (mC 10) (mC 1 10)) : ∀ (r f f' : Nat) (u c d i : Int), (u = 48 ∨ (0 ≤ u ∧ u < mC 1 10)) → mC 4 u ≤ r → 0 ≤ i → i + r ≤ 48 → r < f → r < f' → ∃ g, FX5_groups_L33 a1 mC (fun y _ _ => some y) f c u i = some (c + g) ∧ FX6_groups_L44 a1 m1 (fun _ y => some (y, m1)) f' (znn u) d = some (d + g, m1) := by
  have hN : 0 ≤ mC 1 10 ∧ mC 1 10 ≤ mC 1 9 ∧ mC 1 9 ≤ 48 := zci_N h
  have h48 : ∀ (f f' : Nat) (c d i : Int), 0 ≤ i → i ≤ 48 → ∃ g, FX5_groups_L33 a1 mC (fun y _ _ => some y) (f + 1) c 48 i = some (c + g) ∧ FX6_groups_L44 a1 m1 (fun _ y => some (y, m1)) (f' + 1) (znn 48) d = some (d + g, m1) := fun f f' c d i i0 i1 => by
    refine ⟨0, ?_, ?_⟩
    · rw [FX5_groups_L33_s]
      unfold FX5_groups_L33_B
      by_cases e : i < 48
      · rw [if_pos (zlt_i (by omega)), if_neg (znlt_i (by omega)), show c + 0 = c by omega]
      · rw [if_neg (znlt_i (by omega)), show c + 0 = c by omega]
    · rw [FX6_groups_L44_s]
      unfold FX6_groups_L44_B
      rw [znn_b (by omega), if_pos rfl, show d + 0 = d by omega]
  intro r
  induction r with
  | zero =>
    intro f f' u c d i hu hl i0 i1 hf hf'
    obtain ⟨f, rfl⟩ : ∃ g, f = g + 1 := ⟨f - 1, by omega⟩
    obtain ⟨f', rfl⟩ : ∃ g, f' = g + 1 := ⟨f' - 1, by omega⟩
    rcases hu with rfl | ⟨a, b⟩
    · exact h48 f f' c d i i0 (by omega)
    · have := zLd_Z l2 a b; omega
  | succ r ih =>
    intro f f' u c d i hu hl i0 i1 hf hf'
    obtain ⟨f, rfl⟩ : ∃ g, f = g + 1 := ⟨f - 1, by omega⟩
    obtain ⟨f', rfl⟩ : ∃ g, f' = g + 1 := ⟨f' - 1, by omega⟩
    rcases hu with rfl | ⟨a, b⟩
    · exact h48 f f' c d i i0 (by omega)
    · obtain ⟨z1, z2, z3, z4⟩ := zLd_Z l2 a b
      have hs := ser_cases l2.2.1 (r + 1) u a b hl
      have hs2 : (mC 6 u = 48 ∨ (0 ≤ mC 6 u ∧ mC 6 u < mC 1 10)) ∧ mC 4 (mC 6 u) ≤ r := by
        rcases hs with q | ⟨q1, q2, q3⟩
        · have r0 : mC 4 48 = 0 := l2.2.1.2.2.2.1.1
          exact ⟨Or.inl q, by rw [q, r0]; omega⟩
        · exact ⟨Or.inr ⟨q1, q2⟩, by omega⟩
      obtain ⟨g, g1, g2⟩ := ih f f' (mC 6 u) (c + 1) (d + 1) (i + 1) hs2.1 hs2.2 (by omega) (by omega) (by omega) (by omega)
      refine ⟨g + 1, ?_, ?_⟩
      · rw [FX5_groups_L33_s]
        unfold FX5_groups_L33_B
        rw [if_pos (zlt_i (by omega)), if_pos (zlt_i (by omega)), zrd_p ⟨by omega, by omega⟩, g1, show c + 1 + g = c + (g + 1) by omega]
      · rw [FX6_groups_L44_s]
        unfold FX6_groups_L44_B
        rw [znn_a (by omega), if_neg (zne_i (by omega)), zcl_p (series6 l2 a b), g2, show d + 1 + g = d + (g + 1) by omega]
theorem S_groups (h : zRel mC mM) : zS_groups zRel mC mM := by
  intro a1 h1
  obtain ⟨m1, l1, l2, l3, l4⟩ := lay_t h
  have hN : 0 ≤ mC 1 10 ∧ mC 1 10 ≤ mC 1 9 ∧ mC 1 9 ≤ 48 := zci_N h.t.ct
  obtain ⟨r1, p1, p2⟩ := pla5 (m := mC) h1 (by omega)
  obtain ⟨r2, p3, p4⟩ := wi6 (n := mM 0 0) h1 (by rw [h.t.n]; omega)
  have g1 : zR (mM 0 0 - 1) := by rw [h.t.n]; omega
  rw [h.t.n] at p4
  by_cases c : 0 ≤ a1 ∧ a1 < mC 1 9
  · have b0 : m1 0 0 = mC 1 9 := l3.t.n
    obtain ⟨t1, t2, t3, t4, t5⟩ := l2.2.1.2.2.2.2.1 a1 c.1 (by omega)
    obtain ⟨z1, z2, z3, z4⟩ := zLd_Z l2 t1 t2
    have t32 := t3.2.1
    obtain ⟨k, k1, k2⟩ := longest_spec l2.1 (p := a1) c.1 (by omega)
    have hk := zL_u k2 t3
    subst hk
    have hs := ser_cases l2.2.1 48 (mC 3 a1) t1 t2 (by omega)
    have hs2 : (mC 6 (mC 3 a1) = 48 ∨ (0 ≤ mC 6 (mC 3 a1) ∧ mC 6 (mC 3 a1) < mC 1 10)) ∧ mC 4 (mC 6 (mC 3 a1)) ≤ (48 : Nat) := by
      rcases hs with q | ⟨q1, q2, q3⟩
      · have r0 : mC 4 48 = 0 := l2.2.1.2.2.2.1.1
        exact ⟨Or.inl q, by rw [q, r0]; omega⟩
      · exact ⟨Or.inr ⟨q1, q2⟩, by omega⟩
    obtain ⟨g, q1, q2⟩ := groups_LL (a1 := a1) h.t.ct l2 48 zfu 3999 (mC 6 (mC 3 a1)) 1 1 0 hs2.1 hs2.2 (by omega) (by omega) (by show _ < 4000; omega) (by omega)
    refine ⟨1 + g, m1, ?_, ?_, l3⟩
    · unfold FX5_groups
      rw [zcl_p p1, if_neg (zyn_1 p2 c), zrd_p ⟨by omega, by omega⟩, zrd_p ⟨by omega, by omega⟩]
      exact q1
    · unfold FX6_groups
      rw [zgd_p h1, zgd_p g1, zcl_p p3, if_neg (zyn_1 p4 c), zcl_p l1, zcl_p k1, zcl_p (nodeOf6 l2 t1 t2 rfl t4 (by omega) (by omega))]
      show FX6_groups_L44 a1 m1 (fun _ y => some (y, m1)) (3999 + 1) (mC 3 a1) 0 = _
      rw [FX6_groups_L44_s]
      unfold FX6_groups_L44_B
      rw [if_neg (zne_i (by omega)), zcl_p (series6 l2 t1 t2)]
      exact q2
  · have q : zRel mC mM := h
    refine ⟨-1, mM, ?_, ?_, h⟩
    · unfold FX5_groups; rw [zcl_p p1, if_pos (zyn_0 p2 c)]
    · unfold FX6_groups; rw [zgd_p h1, zgd_p g1, zcl_p p3, if_pos (zyn_0 p4 c)]
/-- the next shorter one that ends there -/
theorem below6 {m : zM} {lat len lnk ser cor fe dep wid : Int → Int} {N p u : Int} (hT : zTm m) (h : zci (zx m) lat len lnk ser cor fe dep wid (m 0 0) N) (hp : 0 ≤ p) (hp2 : p < m 0 0) (u0 : 0 ≤ u) (u1 : u < N) (hl : len u ≤ p + 1) (hs : zs (zx m) (fe u + 1 - len u) (p + 1 - len u) (len u)) : FX6_endsBelow p (len u) m = some (len (lnk u)) ∧ ((lnk u = 48 ∧ len (lnk u) = 0) ∨ (0 ≤ lnk u ∧ lnk u < N ∧ len (lnk u) ≤ p + 1 ∧ zs (zx m) (fe (lnk u) + 1 - len (lnk u)) (p + 1 - len (lnk u)) (len (lnk u)))) := by
  have hN := zci_N h
  obtain ⟨z1, z2, z3, z4⟩ := zNd_Z h.2.2.1 u0 u1
  obtain ⟨k, k1, k2⟩ := endsBelow_spec hT (p := p) (b := len u) hp hp2 z1 (by omega)
  rcases h.2.2.2.2.2.1 u u0 u1 with ⟨a, b⟩ | ⟨a, b, c, d, e⟩
  · have r0 := h.2.2.2.1.1
    have : k = 0 := by have := k2.1; have := k2.2.1; omega
    rw [k1, b, r0, this]
    exact ⟨rfl, Or.inl ⟨rfl, rfl⟩⟩
  · have d2 := d.2.1
    have d0 := d.1
    have hd : zLb (zx m) p (len u) (len (lnk u)) := ⟨d0, d2, by omega, zp_s (zs_sub hs (i' := fe u + 1 - len (lnk u)) (j' := p + 1 - len (lnk u)) (b := len (lnk u)) (by omega) (by omega) (by omega)) d.2.2.2.1, fun j j1 j2 j3 hj => d.2.2.2.2 j j1 j2 (by omega) (zp_s (zs_sy (zs_sub hs (i' := fe u + 1 - j) (j' := p + 1 - j) (b := j) (by omega) (by omega) (by omega))) hj)⟩
    rw [k1, zLb_u k2 hd]
    exact ⟨rfl, Or.inr ⟨b, c, by omega, zs_tr e (zs_sub hs (by omega) (by omega) (by omega))⟩⟩
/-- the walk along the endings, in both -/
theorem ends_LL {m1 : zM} {a1 a2 : Int} {K : Int → Int → Option Int} (hT : zTm m1) (h : zci (zx m1) (mC 3) (mC 4) (mC 5) (mC 6) (mC 7) (mC 8) (mC 9) (mC 10) (m1 0 0) (mC 1 10)) (ha2 : -1 ≤ a2 ∧ a2 < 2147483648) (hp : 0 ≤ a1) (hp2 : a1 < m1 0 0) : ∀ (r f f' : Nat) (u i : Int), (u = 48 ∨ (0 ≤ u ∧ u < mC 1 10 ∧ mC 4 u ≤ a1 + 1 ∧ zs (zx m1) (mC 8 u + 1 - mC 4 u) (a1 + 1 - mC 4 u) (mC 4 u))) → mC 9 u = r → 0 ≤ i → i + r ≤ 48 → r < f → r < f' → (a2 = -1 ∨ i ≤ a2) →
    ((a2 = -1 ∨ i + r ≤ a2) → FX6_ends_L34 a1 a2 m1 K f' i (mC 4 u) = K (i + r) 0) ∧ (i ≤ a2 → a2 < i + r → ∃ w, FX5_ends_L56 a1 a2 mC (fun y _ => zrd mC 4 y 50 fun x6 => some x6) f u i = some w ∧ FX6_ends_L34 a1 a2 m1 K f' i (mC 4 u) = some w) := by
  have hN := zci_N h
  have hb := hT.2.1
  intro r
  induction r with
  | zero =>
    intro f f' u i hu hl i0 i1 hf hf' hi
    obtain ⟨f, rfl⟩ : ∃ g, f = g + 1 := ⟨f - 1, by omega⟩
    obtain ⟨f', rfl⟩ : ∃ g, f' = g + 1 := ⟨f' - 1, by omega⟩
    have r0 : mC 4 48 = 0 := h.2.2.2.1.1
    rcases hu with rfl | ⟨a, b, -⟩
    · refine ⟨fun _ => ?_, fun _ _ => by omega⟩
      rw [FX6_ends_L34_s]
      unfold FX6_ends_L34_B
      rw [r0, if_neg (znlt_i (by omega)), show i + ((0 : Nat) : Int) = i by omega]
    · have := dep_b h 48 u a b (by have := zNd_Z h.2.2.1 a b; omega)
      omega
  | succ r ih =>
    intro f f' u i hu hl i0 i1 hf hf' hi
    obtain ⟨f, rfl⟩ : ∃ g, f = g + 1 := ⟨f - 1, by omega⟩
    obtain ⟨f', rfl⟩ : ∃ g, f' = g + 1 := ⟨f' - 1, by omega⟩
    rcases hu with rfl | ⟨a, b, c, d⟩
    · have r0 : mC 9 48 = 0 := h.2.2.2.1.2.2.2.2.2.2
      omega
    · obtain ⟨z1, z2, z3, z4⟩ := zNd_Z h.2.2.1 a b
      have hd := h.2.2.2.2.2.2.2.1 u a b
      obtain ⟨e1, e2⟩ := below6 hT h hp hp2 a b c d
      have e3 : mC 5 u = 48 ∨ (0 ≤ mC 5 u ∧ mC 5 u < mC 1 10 ∧ mC 4 (mC 5 u) ≤ a1 + 1 ∧ zs (zx m1) (mC 8 (mC 5 u) + 1 - mC 4 (mC 5 u)) (a1 + 1 - mC 4 (mC 5 u)) (mC 4 (mC 5 u))) := e2.imp (fun q => q.1) id
      have hC : i < a2 → FX5_ends_L56 a1 a2 mC (fun y _ => zrd mC 4 y 50 fun x6 => some x6) (f + 1) u i = FX5_ends_L56 a1 a2 mC (fun y _ => zrd mC 4 y 50 fun x6 => some x6) f (mC 5 u) (i + 1) := fun q => by
        rw [FX5_ends_L56_s]
        unfold FX5_ends_L56_B
        rw [if_pos (zlt_i (by omega)), zrd_p ⟨by omega, by omega⟩]
      have hM : i ≠ a2 → FX6_ends_L34 a1 a2 m1 K (f' + 1) i (mC 4 u) = FX6_ends_L34 a1 a2 m1 K f' (i + 1) (mC 4 (mC 5 u)) := fun q => by
        rw [FX6_ends_L34_s]
        unfold FX6_ends_L34_B
        rw [if_pos (zlt_i (by omega)), if_neg (zne_i (by omega)), zcl_p e1]
      by_cases c2 : i = a2
      · refine ⟨fun q => by omega, fun q1 q2 => ⟨mC 4 u, ?_, ?_⟩⟩
        · rw [FX5_ends_L56_s]
          unfold FX5_ends_L56_B
          rw [if_neg (znlt_i (by omega))]
          dsimp only
          rw [zrd_p ⟨by omega, by omega⟩]
        · rw [FX6_ends_L34_s]
          unfold FX6_ends_L34_B
          rw [if_pos (zlt_i (by omega)), if_pos (by rw [c2])]
      · obtain ⟨q1, q2⟩ := ih f f' (mC 5 u) (i + 1) e3 (by omega) (by omega) (by omega) (by omega) (by omega) (by omega)
        refine ⟨fun q => ?_, fun w1 w2 => ?_⟩
        · rw [hM c2, q1 (by omega), show i + 1 + (r : Int) = i + ((r + 1 : Nat) : Int) by omega]
        · rw [hM c2, hC (by omega)]
          exact q2 (by omega) (by omega)
theorem S_ends (h : zRel mC mM) : zS_ends zRel mC mM := by
  intro a1 h1 a2 h2
  have hT := h.t.T
  have hci := h.t.ci
  have hN : 0 ≤ mC 1 10 ∧ mC 1 10 ≤ mC 1 9 ∧ mC 1 9 ≤ 48 := zci_N h.t.ct
  obtain ⟨r1, p1, p2⟩ := pla5 (m := mC) h1 (by omega)
  obtain ⟨r2, p3, p4⟩ := wi6 (n := mM 0 0) h1 (by rw [h.t.n]; omega)
  have g1 : zR (mM 0 0 - 1) := by rw [h.t.n]; omega
  rw [h.t.n] at p4
  have b0 := h.t.n
  by_cases c : 0 ≤ a1 ∧ a1 < mC 1 9
  · by_cases c2 : a2 < -1
    · refine ⟨-1, ?_, ?_, h⟩
      · unfold FX5_ends; rw [zcl_p p1, if_neg (zyn_1 p2 c), if_pos (zlt_i (by omega))]
      · unfold FX6_ends; rw [zgd_p h1, zgd_p g1, zcl_p p3, if_neg (zyn_1 p4 c), if_pos (zlt_i (by omega))]
    · obtain ⟨t1, t2, t3, t4, t5⟩ := hci.2.2.2.2.1 a1 c.1 (by omega)
      obtain ⟨z1, z2, z3, z4⟩ := zNd_Z hci.2.2.1 t1 t2
      have t32 := t3.2.1
      obtain ⟨k, k1, k2⟩ := longest_spec hT (p := a1) c.1 (by omega)
      have hk := zL_u k2 t3
      subst hk
      have hd := dep_b hci 48 (mC 3 a1) t1 t2 (by omega)
      obtain ⟨q1, q2⟩ := ends_LL (a1 := a1) (a2 := a2) (K := fun y34_3 y34_4 => if zI a2 = zI (-1) then (some y34_3) else (some (-4))) hT hci (by omega) c.1 (by omega) (mC 9 (mC 3 a1)).toNat zfu zfu (mC 3 a1) 0 (Or.inr ⟨t1, t2, t32, t4⟩) (by omega) (by omega) (by omega) (by show _ < 4000; omega) (by show _ < 4000; omega) (by omega)
      have hM : FX6_ends a1 a2 mM = FX6_ends_L34 a1 a2 mM (fun y34_3 y34_4 => if zI a2 = zI (-1) then (some y34_3) else (some (-4))) zfu 0 (mC 4 (mC 3 a1)) := by
        unfold FX6_ends; rw [zgd_p h1, zgd_p g1, zcl_p p3, if_neg (zyn_1 p4 c), if_neg (znlt_i (by omega)), zcl_p k1]
      by_cases c3 : a2 = -1
      · refine ⟨mC 9 (mC 3 a1), ?_, ?_, h⟩
        · unfold FX5_ends; rw [zcl_p p1, if_neg (zyn_1 p2 c), if_neg (znlt_i (by omega)), zrd_p ⟨by omega, by omega⟩, zrd_p ⟨by omega, by omega⟩, if_pos (by rw [c3])]
        · rw [hM, q1 (Or.inl c3), if_pos (by rw [c3]), show 0 + ((mC 9 (mC 3 a1)).toNat : Int) = mC 9 (mC 3 a1) by omega]
      · have n3 : ¬ zI a2 = zI (-1) := zne_i (by omega)
        by_cases c4 : a2 < mC 9 (mC 3 a1)
        · obtain ⟨w, w1, w2⟩ := q2 (by omega) (by omega)
          refine ⟨w, ?_, by rw [hM, w2], h⟩
          unfold FX5_ends; rw [zcl_p p1, if_neg (zyn_1 p2 c), if_neg (znlt_i (by omega)), zrd_p ⟨by omega, by omega⟩, zrd_p ⟨by omega, by omega⟩, if_neg n3, if_pos (zlt_i (by omega))]
          exact w1
        · refine ⟨-4, ?_, by rw [hM, q1 (by omega), if_neg n3], h⟩
          unfold FX5_ends; rw [zcl_p p1, if_neg (zyn_1 p2 c), if_neg (znlt_i (by omega)), zrd_p ⟨by omega, by omega⟩, zrd_p ⟨by omega, by omega⟩, if_neg n3, if_neg (znlt_i (by omega))]
  · refine ⟨-1, ?_, ?_, h⟩
    · unfold FX5_ends; rw [zcl_p p1, if_pos (zyn_0 p2 c)]
    · unfold FX6_ends; rw [zgd_p h1, zgd_p g1, zcl_p p3, if_pos (zyn_0 p4 c)]
/-- whether the tape stands at a place -/
theorem taped6 {m : zM} (h : zTm m) (ht : (0 ≤ m 0 6 ∧ m 0 6 ≤ 48) ∧ ∀ i, 0 ≤ i → i < m 0 6 → 0 ≤ m 5 i ∧ m 5 i ≤ 255) {i : Int} (hi : 0 ≤ i) (hi2 : i ≤ 48) : ∃ r, FX6_isTaped i m = some r ∧ zyn r (0 < m 0 6 ∧ i + m 0 6 ≤ m 0 0 ∧ ∀ d, 0 ≤ d → d < m 0 6 → m 5 d = 97 + m 1 (i + d)) := by
  have hb := h.2.1
  have h0 := h.1
  unfold FX6_isTaped
  rw [zjn_p]
  have no : FX6_isTaped_L28 i m (fun y28_2 y28_3 => zgd (y28_2 = 0 ∨ y28_2 = 1) <| some y28_2) zfu 0 0 = some 0 := by
    show FX6_isTaped_L28 i m (fun y28_2 y28_3 => zgd (y28_2 = 0 ∨ y28_2 = 1) <| some y28_2) (3999 + 1) 0 0 = some 0
    rw [FX6_isTaped_L28_s]
    unfold FX6_isTaped_L28_B
    by_cases c : 0 < m 0 6
    · rw [if_pos (zlt_i (by omega)), if_pos rfl]; exact zgd_p (by omega)
    · rw [if_neg (znlt_i (by omega))]; exact zgd_p (by omega)
  dsimp only
  by_cases c : 0 < m 0 6
  · rw [if_pos (zlt_i (by omega))]
    by_cases c2 : i + m 0 6 ≤ m 0 0
    · rw [if_neg (znlt_i (by omega))]
      have hw := wl_all (FX6_isTaped_L28 i m (fun y28_2 y28_3 => zgd (y28_2 = 0 ∨ y28_2 = 1) <| some y28_2)) (fun y28_2 y28_3 => zgd (y28_2 = 0 ∨ y28_2 = 1) <| some y28_2) (fun d => m 5 d = 97 + m 1 (i + d)) 0 (m 0 6)
        (fun f d d0 d1 => by
          have a1 := h.2.2 (i + d) (by omega) (by omega)
          have a2 := ht.2 d d0 d1
          constructor
          · intro c
            rw [FX6_isTaped_L28_s]
            unfold FX6_isTaped_L28_B
            rw [if_pos (zlt_i (by omega)), if_neg zI_ne10, zrd_p ⟨by omega, by omega⟩, zrd_p ⟨by omega, by omega⟩, if_pos (by rw [c])]
          · intro c
            rw [FX6_isTaped_L28_s]
            unfold FX6_isTaped_L28_B
            rw [if_pos (zlt_i (by omega)), if_neg zI_ne10, zrd_p ⟨by omega, by omega⟩, zrd_p ⟨by omega, by omega⟩, if_neg (zne_i ⟨by omega, by omega, by omega, by omega, c⟩)])
        (fun f is => by
          rw [FX6_isTaped_L28_s]
          unfold FX6_isTaped_L28_B
          rw [if_neg (znlt_i (by omega))])
        (fun f d d0 d1 => by
          rw [FX6_isTaped_L28_s]
          unfold FX6_isTaped_L28_B
          rw [if_pos (zlt_i (by omega)), if_pos rfl])
        (m 0 6).toNat zfu 0 (by omega) (by omega) (by show _ ≤ 4000; omega)
      rcases hw with ⟨d', q1, q2⟩ | ⟨d', q1, e, q2, q3, q4⟩
      · exact ⟨1, by rw [q1, zgd_p (by omega)], Or.inl ⟨rfl, c, c2, fun d d0 d1 => q2 d d0 d1⟩⟩
      · exact ⟨0, by rw [q1, zgd_p (by omega)], Or.inr ⟨rfl, fun hp => q4 (hp.2.2 e q2 q3)⟩⟩
    · rw [if_pos (zlt_i (by omega)), no]
      exact ⟨0, rfl, Or.inr ⟨rfl, fun q => c2 q.2.1⟩⟩
  · rw [if_neg (znlt_i (by omega)), no]
    exact ⟨0, rfl, Or.inr ⟨rfl, fun q => c q.1⟩⟩
theorem S_find (h : zRel mC mM) : zS_find zRel mC mM := by
  obtain ⟨m1, l1, l2, l3, l4⟩ := lay_t h
  have hN : 0 ≤ mC 1 10 ∧ mC 1 10 ≤ mC 1 9 ∧ mC 1 9 ≤ 48 := zci_N h.t.ct
  obtain ⟨t1, t2, t3⟩ := l3.tp
  have b0 : m1 0 0 = mC 1 9 := l3.t.n
  obtain ⟨q, q1, q2⟩ := nodeOf5 h.t.ct (c := 34) (j := 0) (k := mC 33 1) (by omega) (by omega) (by omega) (fun i i0 i1 => by have := t3 i i0 (by omega); omega)
  have q2 : (0 ≤ q ∧ q < mC 1 10 ∧ mC 4 q = mC 33 1 ∧ zsm (mC 2) (mC 34) (mC 8 q - mC 4 q + 1) 0 (mC 33 1)) ∨ (q = -1 ∧ ∀ v, 0 ≤ v → v < mC 1 10 → mC 4 v = mC 33 1 → ¬ zsm (mC 2) (mC 34) (mC 8 v - mC 4 v + 1) 0 (mC 33 1)) := q2
  -- what both ask of a node
  have hP : ∀ v, 0 ≤ v → v < mC 1 10 → mC 4 v = mC 33 1 → ((0 < m1 0 6 ∧ mC 8 v + 1 - mC 4 v + m1 0 6 ≤ m1 0 0 ∧ ∀ d, 0 ≤ d → d < m1 0 6 → m1 5 d = 97 + m1 1 (mC 8 v + 1 - mC 4 v + d)) ↔ zsm (mC 2) (mC 34) (mC 8 v - mC 4 v + 1) 0 (mC 33 1)) := fun v v0 v1 v2 => by
    obtain ⟨z1, z2, z3, z4⟩ := zLd_Z l2 v0 v1
    refine ⟨fun hh d d0 d1 => ?_, fun hh => ⟨by omega, by omega, fun d d0 d1 => ?_⟩⟩
    · rw [l3.t.x _ (by omega) (by omega), (t3 (0 + d) (by omega) (by omega)).1, show 0 + d = d by omega, hh.2.2 d d0 (by omega), show mC 8 v - mC 4 v + 1 + d = mC 8 v + 1 - mC 4 v + d by omega]
    · have w := hh d d0 (by omega)
      rw [l3.t.x _ (by omega) (by omega), (t3 (0 + d) (by omega) (by omega)).1, show 0 + d = d by omega, show mC 8 v - mC 4 v + 1 + d = mC 8 v + 1 - mC 4 v + d by omega] at w
      exact w.symm
  -- no two of them
  have hU : ∀ u v, 0 ≤ u → u < mC 1 10 → 0 ≤ v → v < mC 1 10 → mC 4 u = mC 33 1 → mC 4 v = mC 33 1 → zsm (mC 2) (mC 34) (mC 8 u - mC 4 u + 1) 0 (mC 33 1) → zsm (mC 2) (mC 34) (mC 8 v - mC 4 v + 1) 0 (mC 33 1) → u = v := fun u v u0 u1 v0 v1 e1 e2 s1 s2 => by
    have hs : zs (mC 2) (mC 8 u - mC 4 u + 1) (mC 8 v - mC 4 v + 1) (mC 33 1) := fun d d0 d1 => (s1 d d0 d1).trans (s2 d d0 d1).symm
    exact zNd_u h.t.ct.2.2.1 u0 u1 v0 v1 (e1.trans e2.symm) (zs_to hs (show mC 8 u + 1 - mC 4 u = mC 8 u - mC 4 u + 1 by omega) (show mC 8 v + 1 - mC 4 v = mC 8 v - mC 4 v + 1 by omega) e1)
  have hM : FX6_find mM = some (if q = -1 then -4 else q, m1) := by
    unfold FX6_find
    rw [zcl_p l1]
    refine zlo2 (FX6_find_L9 m1 (fun y9_1 y9_2 => some (y9_1, m1))) (fun r a v => v + r = mC 1 10 ∧ 0 ≤ v ∧ a = if 0 ≤ q ∧ q < v then q else -4) (fun x => x = some (if q = -1 then -4 else q, m1)) ?_ ?_ (mC 1 10).toNat zfu (-4) 0 ⟨by omega, by omega, by rw [if_neg (by omega)]⟩ (by show _ < 4000; omega)
    · intro f r a v ⟨i1, i2, i3⟩
      obtain ⟨z1, z2, z3, z4⟩ := zLd_Z l2 i2 (by omega : v < mC 1 10)
      obtain ⟨w1, w2⟩ := l2.2.2.2 v i2 (by omega)
      rw [FX6_find_L9_s]
      unfold FX6_find_L9_B
      rw [l2.2.2.1, if_pos (zlt_i (by omega)), zrd_p ⟨by omega, by omega⟩, w1]
      by_cases c : mC 4 v = m1 0 6
      · obtain ⟨g, g1, g2⟩ := taped6 l2.1 ⟨t2, fun i i0 i1 => (t3 i i0 i1).2⟩ (i := mC 8 v + 1 - mC 4 v) (by omega) (by omega)
        rw [if_pos (by rw [c]), zrd_p ⟨by omega, by omega⟩, w2, zcl_p g1]
        by_cases c2 : zsm (mC 2) (mC 34) (mC 8 v - mC 4 v + 1) 0 (mC 33 1)
        · rw [if_neg (zyn_1 g2 ((hP v i2 (by omega) (by omega)).mpr c2))]
          refine Or.inr ⟨v, v + 1, rfl, by omega, by omega, ?_⟩
          rcases q2 with ⟨e1, e2, e3, e4⟩ | ⟨e1, e2⟩
          · have := hU q v e1 e2 i2 (by omega) e3 (by omega) e4 c2
            rw [if_pos (by omega), this]
          · exact absurd c2 (e2 v i2 (by omega) (by omega))
        · rw [if_pos (zyn_0 g2 (fun hh => c2 ((hP v i2 (by omega) (by omega)).mp hh)))]
          refine Or.inr ⟨a, v + 1, rfl, by omega, by omega, ?_⟩
          rw [i3]
          by_cases c3 : 0 ≤ q ∧ q < v
          · rw [if_pos c3, if_pos (by omega)]
          · rw [if_neg c3, if_neg (fun hh => ?_)]
            have e : q = v := by omega
            subst e
            rcases q2 with ⟨e1, e2, e3, e4⟩ | ⟨e1, e2⟩
            · exact c2 e4
            · omega
      · rw [if_neg (zne_i (by omega))]
        refine Or.inr ⟨a, v + 1, rfl, by omega, by omega, ?_⟩
        rw [i3]
        by_cases c3 : 0 ≤ q ∧ q < v
        · rw [if_pos c3, if_pos (by omega)]
        · rw [if_neg c3, if_neg (fun hh => ?_)]
          have e : q = v := by omega
          subst e
          rcases q2 with ⟨e1, e2, e3, e4⟩ | ⟨e1, e2⟩
          · omega
          · omega
    · intro f a v ⟨i1, i2, i3⟩
      rw [FX6_find_L9_s]
      unfold FX6_find_L9_B
      rw [l2.2.2.1, if_neg (znlt_i (by omega)), i3]
      rcases q2 with ⟨e1, e2, e3, e4⟩ | ⟨e1, e2⟩
      · rw [if_pos (by omega), if_neg (by omega)]
      · rw [if_neg (by omega), if_pos e1]
  refine ⟨_, m1, ?_, hM, l3⟩
  unfold FX5_find
  rw [zcl_p q1]
  rcases q2 with ⟨e1, e2, e3, e4⟩ | ⟨e1, e2⟩
  · rw [if_neg (zne_i (by omega)), if_neg (by omega)]
  · rw [if_pos (by rw [e1]), if_pos e1]
theorem S_times (h : zRel mC mM) : zS_times zRel mC mM := by
  have hN : 0 ≤ mC 1 10 ∧ mC 1 10 ≤ mC 1 9 ∧ mC 1 9 ≤ 48 := zci_N h.t.ct
  obtain ⟨t1, t2, t3⟩ := h.tp
  have b0 := h.t.n
  have hM : FX6_times mM = some (zct (fun i => 0 < mM 0 6 ∧ i + mM 0 6 ≤ mM 0 0 ∧ ∀ d, 0 ≤ d → d < mM 0 6 → mM 5 d = 97 + mM 1 (i + d)) (mC 1 9).toNat) := by
    unfold FX6_times
    refine zlo2 (FX6_times_L4 mM (fun y4_1 y4_2 => some y4_1)) (fun r a v => v + r = mC 1 9 ∧ 0 ≤ v ∧ a = zct (fun i => 0 < mM 0 6 ∧ i + mM 0 6 ≤ mM 0 0 ∧ ∀ d, 0 ≤ d → d < mM 0 6 → mM 5 d = 97 + mM 1 (i + d)) v.toNat) (fun x => x = some (zct (fun i => 0 < mM 0 6 ∧ i + mM 0 6 ≤ mM 0 0 ∧ ∀ d, 0 ≤ d → d < mM 0 6 → mM 5 d = 97 + mM 1 (i + d)) (mC 1 9).toNat)) ?_ ?_ (mC 1 9).toNat zfu 0 0 ⟨by omega, by omega, rfl⟩ (by show _ < 4000; omega)
    · intro f r a v ⟨i1, i2, i3⟩
      obtain ⟨g, g1, g2⟩ := taped6 h.t.T ⟨t2, fun i i0 i1 => (t3 i i0 i1).2⟩ (i := v) (by omega) (by omega)
      rw [FX6_times_L4_s]
      unfold FX6_times_L4_B
      rw [b0, if_pos (zlt_i (by omega)), zcl_p g1]
      rw [← b0]
      by_cases c : 0 < mM 0 6 ∧ v + mM 0 6 ≤ mM 0 0 ∧ ∀ d, 0 ≤ d → d < mM 0 6 → mM 5 d = 97 + mM 1 (v + d)
      · rw [if_neg (zyn_1 g2 c)]
        refine Or.inr ⟨a + 1, v + 1, rfl, by omega, by omega, ?_⟩
        rw [show (v + 1).toNat = v.toNat + 1 by omega, zct_s, i3, show ((v.toNat : Nat) : Int) = v by omega, zin_1 c]
      · rw [if_pos (zyn_0 g2 c)]
        refine Or.inr ⟨a + 0, v + 1, rfl, by omega, by omega, ?_⟩
        rw [show (v + 1).toNat = v.toNat + 1 by omega, zct_s, i3, show ((v.toNat : Nat) : Int) = v by omega, zin_0 c]
    · intro f a v ⟨i1, i2, i3⟩
      rw [FX6_times_L4_s]
      unfold FX6_times_L4_B
      rw [b0, if_neg (znlt_i (by omega)), i3, show v = mC 1 9 by omega]
      rw [← b0]
  refine ⟨_, ?_, hM, h⟩
  unfold FX5_times
  by_cases c : mC 33 1 = 0
  · rw [if_pos (by rw [c])]
    have := zct_out (P := fun i => 0 < mM 0 6 ∧ i + mM 0 6 ≤ mM 0 0 ∧ ∀ d, 0 ≤ d → d < mM 0 6 → mM 5 d = 97 + mM 1 (i + d)) (a := 0) (mC 1 9).toNat (fun i _ _ q => by omega)
    rw [Nat.zero_add] at this
    rw [this]; rfl
  · rw [if_neg (zne_i (by omega))]
    have k1 : FX1_places 1 34 48 0 (mC 33 1) mC = some (zct (fun p => zsm (mC 2) (mC 34) p 0 (mC 33 1)) (mC 1 9 - mC 33 1 + 1).toNat) := places5 h.t.ct (by omega) (by omega) (by omega) (fun i i0 i1 => by have := t3 i i0 (by omega); omega)
    rw [zcl_p k1]
    refine congrArg some ?_
    have e1 := zct_out (P := fun i => 0 < mM 0 6 ∧ i + mM 0 6 ≤ mM 0 0 ∧ ∀ d, 0 ≤ d → d < mM 0 6 → mM 5 d = 97 + mM 1 (i + d)) (a := (mC 1 9 - mC 33 1 + 1).toNat) ((mC 1 9).toNat - (mC 1 9 - mC 33 1 + 1).toNat) (fun i i0 i1 q => by omega)
    rw [show (mC 1 9 - mC 33 1 + 1).toNat + ((mC 1 9).toNat - (mC 1 9 - mC 33 1 + 1).toNat) = (mC 1 9).toNat by omega] at e1
    rw [e1]
    refine zct_cg _ (fun i i0 i1 => ⟨fun hh => ⟨by omega, by omega, fun d d0 d1 => ?_⟩, fun hh d d0 d1 => ?_⟩)
    · have w := hh d d0 (by omega)
      rw [h.t.x _ (by omega) (by omega), (t3 (0 + d) (by omega) (by omega)).1, show 0 + d = d by omega] at w
      exact w.symm
    · rw [h.t.x _ (by omega) (by omega), (t3 (0 + d) (by omega) (by omega)).1, show 0 + d = d by omega]
      exact (hh.2.2 d d0 (by omega)).symm
end GR
