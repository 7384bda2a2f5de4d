/-! the catalogue: what its rows hold -/
def zci (x lat len lnk ser cor fe dep wid : Int → Int) (n N : Int) : Prop :=
  (0 ≤ n ∧ n ≤ 48) ∧
  (∀ i, 0 ≤ i → i < n → 97 ≤ x i ∧ x i ≤ 102) ∧
  zNd x n N fe len ∧
  (len 48 = 0 ∧ len 49 = -1 ∧ lnk 48 = 49 ∧ lnk 49 = 49 ∧ ser 48 = 48 ∧ ser 49 = 48 ∧ dep 48 = 0) ∧
  (∀ p, 0 ≤ p → p < n → 0 ≤ lat p ∧ lat p < N ∧ zL x p (len (lat p)) ∧ zs x (fe (lat p) + 1 - len (lat p)) (p + 1 - len (lat p)) (len (lat p)) ∧ fe (lat p) ≤ p) ∧
  (∀ v, 0 ≤ v → v < N → (len v = 1 ∧ lnk v = 48) ∨ (2 ≤ len v ∧ 0 ≤ lnk v ∧ lnk v < N ∧ zLb x (fe v) (len v) (len (lnk v)) ∧ zs x (fe (lnk v) + 1 - len (lnk v)) (fe v + 1 - len (lnk v)) (len (lnk v)))) ∧
  (∀ v, 0 ≤ v → v < N → (len v = 1 ∧ cor v = 49) ∨ (len v = 2 ∧ cor v = 48) ∨ (3 ≤ len v ∧ 0 ≤ cor v ∧ cor v < N ∧ len (cor v) = len v - 2 ∧ zs x (fe (cor v) + 1 - len (cor v)) (fe v + 2 - len v) (len v - 2))) ∧
  (∀ v, 0 ≤ v → v < N → dep v = dep (lnk v) + 1) ∧
  (∀ v, 0 ≤ v → v < N → ser v = if len v - len (lnk v) = len (lnk v) - len (lnk (lnk v)) then ser (lnk v) else lnk v) ∧
  (∀ v, 0 ≤ v → v < N → wid (cor v * 6 + (x (fe v) - 97)) = v) ∧
  (∀ y c, 0 ≤ y → y < 50 → 0 ≤ c → c < 6 → wid (y * 6 + c) = -1 ∨ (0 ≤ wid (y * 6 + c) ∧ wid (y * 6 + c) < N ∧ cor (wid (y * 6 + c)) = y ∧ x (fe (wid (y * 6 + c))) = 97 + c))
section CI
variable {x y lat len lnk ser cor fe dep wid : Int → Int} {n N : Int}
theorem zNd_cg (h : zNd x n N fe len) (hxy : ∀ i, 0 ≤ i → i < n → x i = y i) : zNd y n N fe len := by
  obtain ⟨h1, h2, h3, h4⟩ := h
  refine ⟨h1, fun v v0 v1 => ?_, h3, fun p p0 p1 k hk hk2 => ?_⟩
  · obtain ⟨a, b, c, d⟩ := h2 v v0 v1
    exact ⟨a, b, zL_cg (fun q q0 q1 => hxy q q0 (by omega)) c, zN_cg (fun q q0 q1 => hxy q q0 (by omega)) c.2.1 (by have := c.1; omega) d⟩
  · exact h4 p p0 p1 k (zL_cg (fun q q0 q1 => (hxy q q0 (by omega)).symm) hk) (zN_cg (fun q q0 q1 => (hxy q q0 (by omega)).symm) hk.2.1 (by have := hk.1; omega) hk2)
theorem zci_cg (h : zci x lat len lnk ser cor fe dep wid n N) (hxy : ∀ i, 0 ≤ i → i < n → x i = y i) : zci y lat len lnk ser cor fe dep wid n N := by
  obtain ⟨h1, h2, h3, h4, h5, h6, h7, h8, h9, h10, h11⟩ := h
  have hb : ∀ v, 0 ≤ v → v < N → 1 ≤ len v ∧ len v ≤ fe v + 1 ∧ 0 ≤ fe v ∧ fe v < n := fun v v0 v1 => zNd_Z h3 v0 v1
  refine ⟨h1, fun i i0 i1 => by rw [← hxy i i0 i1]; exact h2 i i0 i1, zNd_cg h3 hxy, h4, fun p p0 p1 => ?_, fun v v0 v1 => ?_, fun v v0 v1 => ?_, h8, h9, fun v v0 v1 => ?_, fun u c u0 u1 c0 c1 => ?_⟩
  · obtain ⟨a, b, c, d, e⟩ := h5 p p0 p1
    obtain ⟨g1, g2, g3, g4⟩ := hb _ a b
    exact ⟨a, b, zL_cg (fun q q0 q1 => hxy q q0 (by omega)) c, zs_cg (fun q q0 q1 => hxy q (by omega) (by omega)) (fun q q0 q1 => hxy q (by omega) (by omega)) d, e⟩
  · obtain ⟨g1, g2, g3, g4⟩ := hb _ v0 v1
    rcases h6 v v0 v1 with a | ⟨a, b, c, d, e⟩
    · exact Or.inl a
    · obtain ⟨k1, k2, k3, k4⟩ := hb _ b c
      have d2 := d.2.1
      exact Or.inr ⟨a, b, c, zLb_cg (fun q q0 q1 => hxy q q0 (by omega)) d, zs_cg (fun q q0 q1 => hxy q (by omega) (by omega)) (fun q q0 q1 => hxy q (by omega) (by omega)) e⟩
  · obtain ⟨g1, g2, g3, g4⟩ := hb _ v0 v1
    rcases h7 v v0 v1 with a | a | ⟨a, b, c, d, e⟩
    · exact Or.inl a
    · exact Or.inr (Or.inl a)
    · obtain ⟨k1, k2, k3, k4⟩ := hb _ b c
      exact Or.inr (Or.inr ⟨a, b, c, d, zs_cg (fun q q0 q1 => hxy q (by omega) (by omega)) (fun q q0 q1 => hxy q (by omega) (by omega)) e⟩)
  · obtain ⟨g1, g2, g3, g4⟩ := hb _ v0 v1
    rw [← hxy _ g3 g4]
    exact h10 v v0 v1
  · rcases h11 u c u0 u1 c0 c1 with a | ⟨a, b, d, e⟩
    · exact Or.inl a
    · obtain ⟨g1, g2, g3, g4⟩ := hb _ a b
      exact Or.inr ⟨a, b, d, by rw [← hxy _ g3 g4]; exact e⟩
/-- y is the empty row, the one before it, or a node that the text ends with -/
def zsf (x len fe : Int → Int) (n N y : Int) : Prop := y = 49 ∨ y = 48 ∨ (0 ≤ y ∧ y < N ∧ len y ≤ n ∧ zs x (fe y + 1 - len y) (n - len y) (len y))
theorem zci_N (h : zci x lat len lnk ser cor fe dep wid n N) : 0 ≤ N ∧ N ≤ n ∧ n ≤ 48 := ⟨h.2.2.1.1, zNd_N h.2.2.1 h.1.1, h.1.2⟩
theorem zsf_b (h : zci x lat len lnk ser cor fe dep wid n N) {u : Int} (hu : zsf x len fe n N u) : 0 ≤ u ∧ u < 50 ∧ -1 ≤ len u ∧ len u ≤ n := by
  have hN := zci_N h
  obtain ⟨r1, r2, -⟩ := h.2.2.2.1
  rcases hu with rfl | rfl | ⟨a, b, c, d⟩
  · rw [r2]; omega
  · rw [r1]; omega
  · have := zNd_Z h.2.2.1 a b; omega
/-- a row that a text ends with, and its link -/
theorem zsf_link (h : zci x lat len lnk ser cor fe dep wid n N) {u : Int} (hu : zsf x len fe n N u) (h49 : u ≠ 49) : zsf x len fe n N (lnk u) ∧ len (lnk u) < len u ∧ ∀ j, len (lnk u) < j → j < len u → ¬ zp x (n - j) j := by
  obtain ⟨r1, r2, r3, r4, r5, r6, r7⟩ := h.2.2.2.1
  rcases hu with rfl | rfl | ⟨a, b, c, d⟩
  · exact absurd rfl h49
  · rw [r3]
    exact ⟨Or.inl rfl, by omega, fun j h1 h2 => by omega⟩
  · obtain ⟨g1, g2, g3, g4⟩ := zNd_Z h.2.2.1 a b
    rcases h.2.2.2.2.2.1 u a b with ⟨e1, e2⟩ | ⟨e1, e2, e3, e4, e5⟩
    · rw [e2, e1, r1]
      exact ⟨Or.inr (Or.inl rfl), by omega, fun j h1 h2 => by omega⟩
    · have e42 := e4.2.1
      refine ⟨Or.inr (Or.inr ⟨e2, e3, by omega, zs_tr e5 (zs_sub d (by omega) (by omega) (by omega))⟩), e42, fun j h1 h2 hj => ?_⟩
      exact e4.2.2.2.2 j h1 h2 (by omega) (zp_s (zs_sy (zs_sub d (i' := fe u + 1 - j) (j' := n - j) (b := j) (by omega) (by omega) (by omega))) hj)
theorem zsf_pal (h : zci x lat len lnk ser cor fe dep wid n N) {u : Int} (hu : zsf x len fe n N u) : zp x (n - len u) (len u) := by
  obtain ⟨r1, r2, -⟩ := h.2.2.2.1
  rcases hu with rfl | rfl | ⟨a, b, c, d⟩
  · exact zp_0 (by omega)
  · exact zp_0 (by omega)
  · exact zp_s d (h.2.2.1.2.1 u a b).2.2.1.2.2.1
/-- the step of the search -/
theorem zsf_step (h : zci x lat len lnk ser cor fe dep wid n N) {u B : Int} (hu : zsf x len fe n N u) (h49 : u ≠ 49) (hmis : len u + 2 ≤ n + 1 → x (n - 1 - len u) ≠ x n) (hmax : ∀ j, len u + 2 < j → j < B → j ≤ n + 1 → ¬ zp x (n + 1 - j) j) : ∀ j, len (lnk u) + 2 < j → j < B → j ≤ n + 1 → ¬ zp x (n + 1 - j) j := by
  obtain ⟨a1, a2, a3⟩ := zsf_link h hu h49
  intro j h1 h2 h3 hp
  by_cases c : len u + 2 < j
  · exact hmax j c h2 h3 hp
  · by_cases c2 : j = len u + 2
    · subst c2
      exact hmis h3 ((congrArg x (by omega)).trans ((zp_ends hp (by have := (zsf_b h hu).2.2.1; omega)).trans (congrArg x (by omega))))
    · exact a3 (j - 2) (by omega) (by omega) (zp_to (zp_in hp) (by omega) rfl)
theorem zsf_hit (h : zci x lat len lnk ser cor fe dep wid n N) {u : Int} (hu : zsf x len fe n N u) (hx : x (n - 1 - len u) = x n) : zp x (n + 1 - (len u + 2)) (len u + 2) :=
  zp_wr (zp_to (zsf_pal h hu) (by omega) (by omega)) ((congrArg x (by omega)).trans (hx.trans (congrArg x (by omega))))
end CI
def zCI (m : zM) (o : Nat) : Prop := zci (m (o + 1)) (m (o + 2)) (m (o + 3)) (m (o + 4)) (m (o + 5)) (m (o + 6)) (m (o + 7)) (m (o + 8)) (m (o + 9)) (m o 9) (m o 10)
theorem lb_loop {m : zM} {o : Nat} {a1 a : Int} {K : Int → Int → Option Int} (h : zCI m o) (hn : m o 9 < 48) (ha : m (o + 1) (m o 9) = a) (har : 97 ≤ a ∧ a ≤ 102) (B : Int) : ∀ (f : Nat) (u i : Int), zsf (m (o + 1)) (m (o + 3)) (m (o + 7)) (m o 9) (m o 10) u → 0 ≤ i → i + m (o + 3) u ≤ 47 → 49 - i < f →
    (∀ j, m (o + 3) u + 2 < j → j < B → j ≤ m o 9 + 1 → ¬ zp (m (o + 1)) (m o 9 + 1 - j) j) →
    ∃ z, FX1_longestBehind_L5 o a1 a m K f u i = some z ∧ zsf (m (o + 1)) (m (o + 3)) (m (o + 7)) (m o 9) (m o 10) z ∧ m (o + 3) z ≤ m (o + 3) u ∧ zp (m (o + 1)) (m o 9 + 1 - (m (o + 3) z + 2)) (m (o + 3) z + 2) ∧ m (o + 3) z + 2 ≤ m o 9 + 1 ∧ ∀ j, m (o + 3) z + 2 < j → j < B → j ≤ m o 9 + 1 → ¬ zp (m (o + 1)) (m o 9 + 1 - j) j := by
  intro f
  induction f with
  | zero => intro u i hu h0 h1 h2; have := zsf_b h hu; omega
  | succ f ih =>
    intro u i hu h0 h1 h2 hmax
    obtain ⟨b1, b2, b3, b4⟩ := zsf_b h hu
    have hn0 := h.1.1
    show ∃ z, FX1_longestBehind_L5_B o a1 a m K (FX1_longestBehind_L5 o a1 a m K f) u i = some z ∧ _
    unfold FX1_longestBehind_L5_B
    rw [if_pos (zlt_i (by omega)), zrd_p ⟨b1, b2⟩]
    by_cases c1 : m o 9 - 1 - m (o + 3) u < 0
    · have h49 : u ≠ 49 := fun e => by
        subst e
        have := h.2.2.2.1.2.1
        omega
      obtain ⟨l1, l2, l3⟩ := zsf_link h hu h49
      rw [if_pos (zlt_i (by omega)), zrd_p ⟨b1, b2⟩]
      obtain ⟨z, z1, z2, z3, z4⟩ := ih (m (o + 4) u) (i + 1) l1 (by omega) (by omega) (by omega) (zsf_step h hu h49 (fun q => by omega) hmax)
      exact ⟨z, z1, z2, by omega, z4⟩
    · rw [if_neg (znlt_i (by omega)), zrd_p ⟨by omega, by omega⟩]
      by_cases c2 : m (o + 1) (m o 9 - 1 - m (o + 3) u) = a
      · rw [if_pos (by rw [c2])]
        refine ⟨u, rfl, hu, by omega, zsf_hit h hu (c2.trans ha.symm), by omega, hmax⟩
      · have hxr : 97 ≤ m (o + 1) (m o 9 - 1 - m (o + 3) u) ∧ m (o + 1) (m o 9 - 1 - m (o + 3) u) ≤ 102 := by
          by_cases e : m o 9 - 1 - m (o + 3) u = m o 9
          · rw [e, ha]; exact har
          · exact h.2.1 _ (by omega) (by omega)
        rw [if_neg (zne_i ⟨by omega, by omega, by omega, by omega, c2⟩), zrd_p ⟨b1, b2⟩]
        have h49 : u ≠ 49 := fun e => by
          subst e
          have := h.2.2.2.1.2.1
          apply c2
          rw [this, show m o 9 - 1 - -1 = m o 9 by omega]
          exact ha
        obtain ⟨l1, l2, l3⟩ := zsf_link h hu h49
        obtain ⟨z, z1, z2, z3, z4⟩ := ih (m (o + 4) u) (i + 1) l1 (by omega) (by omega) (by omega) (zsf_step h hu h49 (fun q e => c2 (e.trans ha)) hmax)
        exact ⟨z, z1, z2, by omega, z4⟩
theorem lb_spec {m : zM} {o : Nat} {a u : Int} (h : zCI m o) (hn : m o 9 < 48) (ha : m (o + 1) (m o 9) = a) (har : 97 ≤ a ∧ a ≤ 102) (B : Int) (hu : zsf (m (o + 1)) (m (o + 3)) (m (o + 7)) (m o 9) (m o 10) u) (hmax : ∀ j, m (o + 3) u + 2 < j → j < B → j ≤ m o 9 + 1 → ¬ zp (m (o + 1)) (m o 9 + 1 - j) j) :
    ∃ z, FX1_longestBehind o u a m = some z ∧ zsf (m (o + 1)) (m (o + 3)) (m (o + 7)) (m o 9) (m o 10) z ∧ m (o + 3) z ≤ m (o + 3) u ∧ zp (m (o + 1)) (m o 9 + 1 - (m (o + 3) z + 2)) (m (o + 3) z + 2) ∧ m (o + 3) z + 2 ≤ m o 9 + 1 ∧ ∀ j, m (o + 3) z + 2 < j → j < B → j ≤ m o 9 + 1 → ¬ zp (m (o + 1)) (m o 9 + 1 - j) j := by
  have b := zsf_b h hu
  exact lb_loop h hn ha har B zfu u 0 hu (by omega) (by omega) (by show 49 - 0 < ((4000 : Nat) : Int); omega) hmax
