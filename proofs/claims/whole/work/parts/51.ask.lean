/-! the laid catalogue of the reference, beside the class's -/
def zLd (m : zM) (lat len lnk ser cor fe dep wid : Int → Int) (N : Int) : Prop := zTm m ∧ zci (zx m) lat len lnk ser cor fe dep wid (m 0 0) N ∧ m 0 12 = N ∧ ∀ w, 0 ≤ w → w < N → m 11 w = len w ∧ m 10 w = fe w + 1 - len w
def znn (u : Int) : Int := if u < 48 then u else -4
theorem znn_a {u : Int} (h : u < 48) : znn u = u := if_pos h
theorem znn_b {u : Int} (h : 48 ≤ u) : znn u = -4 := if_neg (by omega)
theorem none5 {u : Int} (h : zR u) : FX5_nodeOrNone u = some (znn u) := by
  unfold FX5_nodeOrNone
  by_cases c : u < 48
  · rw [if_pos (zlt_i (by omega)), znn_a c]
  · rw [if_neg (znlt_i (by omega)), znn_b (by omega)]
section LD
variable {m : zM} {lat len lnk ser cor fe dep wid : Int → Int} {N : Int}
theorem zLd_lay {mM : zM} {x : Int → Int} {n : Int} (h : zci x lat len lnk ser cor fe dep wid n N) (hn : mM 0 0 = n) (hx : ∀ i, 0 ≤ i → i < n → x i = zx mM i) : ∃ mM', FX6_lay mM = some mM' ∧ zLd mM' lat len lnk ser cor fe dep wid N ∧ zlf mM mM' := by
  have h2 := zci_cg h hx
  subst hn
  have hT : zTm mM := ⟨h.1.1, h.1.2, fun i i0 i1 => by have := h2.2.1 i i0 i1; unfold zx at this; omega⟩
  obtain ⟨m', a1, a2, a3, a4⟩ := lay_spec hT h2.2.2.1
  refine ⟨m', a1, ⟨zlf_T a2 hT, ?_, a3, fun w w0 w1 => a4 w w0 w1⟩, a2⟩
  rw [zlf_x a2, a2.2 0 (by omega)]
  exact h2
theorem zLd_Z (h : zLd m lat len lnk ser cor fe dep wid N) {v : Int} (v0 : 0 ≤ v) (v1 : v < N) : 1 ≤ len v ∧ len v ≤ fe v + 1 ∧ 0 ≤ fe v ∧ fe v < m 0 0 := zNd_Z h.2.1.2.2.1 v0 v1
theorem nodeOf6 (h : zLd m lat len lnk ser cor fe dep wid N) {i k v : Int} (v0 : 0 ≤ v) (v1 : v < N) (hk : len v = k) (hs : zs (zx m) (fe v + 1 - len v) i k) (hi : 0 ≤ i) (hi2 : i + k ≤ m 0 0) : FX6_nodeOf i k m = some v := by
  have hN := zci_N h.2.1
  have hT := h.1
  unfold FX6_nodeOf
  refine zlo1 (FX6_nodeOf_L2 i k m (fun y => some y)) (fun r u => u + r = v ∧ 0 ≤ u) (fun x => x = some v) ?_ ?_ v.toNat zfu 0 ⟨by omega, by omega⟩ (by show _ < 4000; omega)
  · intro f r u ⟨i1, i2⟩
    obtain ⟨w1, w2⟩ := h.2.2.2 u i2 (by omega)
    obtain ⟨z1, z2, z3, z4⟩ := zLd_Z h i2 (by omega)
    obtain ⟨y1, y2, y3, y4⟩ := zLd_Z h v0 v1
    rw [FX6_nodeOf_L2_s]
    unfold FX6_nodeOf_L2_B
    rw [zrd_p ⟨by omega, by omega⟩, w1]
    by_cases c : len u = k
    · obtain ⟨q, q1, q2⟩ := isSame_spec hT (i := fe u + 1 - len u) (j := i) (k := k) (by omega) hi (by omega) (by omega) hi2
      rw [if_pos (by rw [c]), zrd_p ⟨by omega, by omega⟩, w2, zcl_p q1]
      have hne : ¬ zs (zx m) (fe u + 1 - len u) i k := fun hh => by
        have := zNd_u h.2.1.2.2.1 i2 (by omega) v0 v1 (by omega) (zs_to (zs_tr hh (zs_sy hs)) rfl rfl (by omega))
        omega
      rw [if_pos (zyn_0 q2 hne)]
      exact Or.inr ⟨u + 1, rfl, by omega, by omega⟩
    · rw [if_neg (zne_i (by omega))]
      exact Or.inr ⟨u + 1, rfl, by omega, by omega⟩
  · intro f u ⟨i1, i2⟩
    have e : u = v := by omega
    subst e
    obtain ⟨w1, w2⟩ := h.2.2.2 u i2 (by omega)
    obtain ⟨z1, z2, z3, z4⟩ := zLd_Z h i2 (by omega)
    obtain ⟨q, q1, q2⟩ := isSame_spec hT (i := fe u + 1 - len u) (j := i) (k := k) (by omega) hi (by omega) (by omega) hi2
    rw [FX6_nodeOf_L2_s]
    unfold FX6_nodeOf_L2_B
    rw [zrd_p ⟨by omega, by omega⟩, w1, if_pos (by rw [hk]), zrd_p ⟨by omega, by omega⟩, w2, zcl_p q1, if_neg (zyn_1 q2 hs)]
theorem lnk_cases (h : zci (zx m) lat len lnk ser cor fe dep wid (m 0 0) N) {v : Int} (v0 : 0 ≤ v) (v1 : v < N) : (lnk v = 48 ∧ len v = 1) ∨ (0 ≤ lnk v ∧ lnk v < N ∧ len (lnk v) < len v) := by
  rcases h.2.2.2.2.2.1 v v0 v1 with ⟨a, b⟩ | ⟨a, b, c, d, e⟩
  · exact Or.inl ⟨b, a⟩
  · exact Or.inr ⟨b, c, d.2.1⟩
theorem link6 (h : zLd m lat len lnk ser cor fe dep wid N) {v : Int} (v0 : 0 ≤ v) (v1 : v < N) : FX6_link v m = some (znn (lnk v)) := by
  have hN := zci_N h.2.1
  obtain ⟨w1, w2⟩ := h.2.2.2 v v0 v1
  obtain ⟨z1, z2, z3, z4⟩ := zLd_Z h v0 v1
  obtain ⟨k, k1, k2⟩ := endsBelow_spec h.1 (p := fe v) (b := len v) z3 z4 z1 (by omega)
  unfold FX6_link
  rw [zrd_p ⟨by omega, by omega⟩, zrd_p ⟨by omega, by omega⟩, zrd_p ⟨by omega, by omega⟩, w1, w2, show fe v + 1 - len v + len v - 1 = fe v by omega, zcl_p k1]
  rcases h.2.1.2.2.2.2.2.1 v v0 v1 with ⟨a, b⟩ | ⟨a, b, c, d, e⟩
  · have : k = 0 := by have := k2.1; have := k2.2.1; omega
    rw [if_pos (by rw [this]), b, znn_b (by omega)]
  · have hk := zLb_u k2 d
    obtain ⟨y1, y2, y3, y4⟩ := zLd_Z h b c
    rw [if_neg (zne_i (by omega)), znn_a (by omega), hk, zcl_p (nodeOf6 h b c rfl e (by have := d.2.2.1; omega) (by omega))]
theorem less6 (h : zLd m lat len lnk ser cor fe dep wid N) {v : Int} (v0 : 0 ≤ v) (v1 : v < N) : FX6_less v m = some (len v - len (lnk v)) := by
  have hN := zci_N h.2.1
  obtain ⟨w1, w2⟩ := h.2.2.2 v v0 v1
  have r0 := h.2.1.2.2.2.1.1
  unfold FX6_less
  rw [zcl_p (link6 h v0 v1)]
  rcases lnk_cases h.2.1 v0 v1 with ⟨a, b⟩ | ⟨a, b, c⟩
  · rw [a, znn_b (by omega), if_pos rfl, zrd_p ⟨by omega, by omega⟩, w1, r0, show len v - 0 = len v by omega]
  · obtain ⟨w3, w4⟩ := h.2.2.2 _ a b
    rw [znn_a (by omega), if_neg (zne_i (by omega)), zrd_p ⟨by omega, by omega⟩, zrd_p ⟨by omega, by omega⟩, w1, w3]
theorem series_L (h : zLd m lat len lnk ser cor fe dep wid N) {a1 d : Int} (hd : 0 ≤ d ∧ d ≤ 49) {K : Int → Option Int} : ∀ (r f : Nat) (u : Int), (u = 48 ∨ (0 ≤ u ∧ u < N)) → len u ≤ r → r < f → FX6_series_L12 a1 d m K f (znn u) = K (znn (if d = len u - len (lnk u) then ser u else u)) := by
  have hN := zci_N h.2.1
  obtain ⟨s1, s2, s3, s4, s5, s6, s7⟩ := h.2.1.2.2.2.1
  have h48 : ∀ (f : Nat), FX6_series_L12 a1 d m K (f + 1) (znn 48) = K (znn (if d = len 48 - len (lnk 48) then ser 48 else 48)) := fun f => by
    rw [FX6_series_L12_s]
    unfold FX6_series_L12_B
    rw [s5, ite_self, znn_b (by omega), if_pos rfl]
  intro r
  induction r with
  | zero =>
    intro f u hu hl hf
    obtain ⟨f, rfl⟩ : ∃ g, f = g + 1 := ⟨f - 1, by omega⟩
    rcases hu with rfl | ⟨a, b⟩
    · exact h48 f
    · have := zLd_Z h a b; omega
  | succ r ih =>
    intro f u hu hl hf
    obtain ⟨f, rfl⟩ : ∃ g, f = g + 1 := ⟨f - 1, by omega⟩
    rcases hu with rfl | ⟨a, b⟩
    · exact h48 f
    · obtain ⟨z1, z2, z3, z4⟩ := zLd_Z h a b
      have hs := h.2.1.2.2.2.2.2.2.2.2.1 u a b
      rw [FX6_series_L12_s]
      unfold FX6_series_L12_B
      rw [znn_a (by omega), if_neg (zne_i (by omega)), zcl_p (less6 h a b)]
      have hb : 0 ≤ len (lnk u) ∧ len (lnk u) < len u := by
        rcases lnk_cases h.2.1 a b with ⟨q1, q2⟩ | ⟨q1, q2, q3⟩
        · rw [q1]; omega
        · have := zLd_Z h q1 q2; omega
      by_cases c : d = len u - len (lnk u)
      · rw [if_pos (by rw [c]), zcl_p (link6 h a b), if_pos c, hs]
        have hl2 : (lnk u = 48 ∨ (0 ≤ lnk u ∧ lnk u < N)) ∧ len (lnk u) ≤ r := by
          rcases lnk_cases h.2.1 a b with ⟨q1, q2⟩ | ⟨q1, q2, q3⟩
          · exact ⟨Or.inl q1, by rw [q1]; omega⟩
          · exact ⟨Or.inr ⟨q1, q2⟩, by omega⟩
        rw [ih f (lnk u) hl2.1 hl2.2 (by omega), c]
      · rw [if_neg (zne_i (by omega)), if_neg c, znn_a (by omega)]
theorem series6 (h : zLd m lat len lnk ser cor fe dep wid N) {v : Int} (v0 : 0 ≤ v) (v1 : v < N) : FX6_series v m = some (znn (ser v)) := by
  have hN := zci_N h.2.1
  obtain ⟨z1, z2, z3, z4⟩ := zLd_Z h v0 v1
  obtain ⟨s1, s2, s3, s4, s5, s6, s7⟩ := h.2.1.2.2.2.1
  have hl2 : (lnk v = 48 ∨ (0 ≤ lnk v ∧ lnk v < N)) ∧ 0 ≤ len (lnk v) ∧ len (lnk v) < len v := by
    rcases lnk_cases h.2.1 v0 v1 with ⟨q1, q2⟩ | ⟨q1, q2, q3⟩
    · exact ⟨Or.inl q1, by rw [q1]; omega⟩
    · have := zLd_Z h q1 q2
      exact ⟨Or.inr ⟨q1, q2⟩, by omega⟩
  unfold FX6_series
  rw [zcl_p (less6 h v0 v1), zcl_p (link6 h v0 v1), series_L h (by omega) 48 zfu (lnk v) hl2.1 (by omega) (by show _ < 4000; omega), h.2.1.2.2.2.2.2.2.2.2.1 v v0 v1]
/-- where a series leads -/
theorem ser_cases {x : Int → Int} {n : Int} (h : zci x lat len lnk ser cor fe dep wid n N) : ∀ (r : Nat) (v : Int), 0 ≤ v → v < N → len v ≤ r → ser v = 48 ∨ (0 ≤ ser v ∧ ser v < N ∧ len (ser v) < len v) := by
  obtain ⟨s1, s2, s3, s4, s5, s6, s7⟩ := h.2.2.2.1
  intro r
  induction r with
  | zero => intro v v0 v1 hl; have := zNd_Z h.2.2.1 v0 v1; omega
  | succ r ih =>
    intro v v0 v1 hl
    have hs := h.2.2.2.2.2.2.2.2.1 v v0 v1
    rcases h.2.2.2.2.2.1 v v0 v1 with ⟨a, b⟩ | ⟨a, b, c, d, e⟩
    · rw [b, s5, ite_self] at hs
      exact Or.inl hs
    · have d2 := d.2.1
      by_cases q : len v - len (lnk v) = len (lnk v) - len (lnk (lnk v))
      · rw [if_pos q] at hs
        rw [hs]
        rcases ih (lnk v) b c (by omega) with w | ⟨w1, w2, w3⟩
        · exact Or.inl w
        · exact Or.inr ⟨w1, w2, by omega⟩
      · rw [if_neg q] at hs
        rw [hs]
        exact Or.inr ⟨b, c, d2⟩
theorem dep_b {x : Int → Int} {n : Int} (h : zci x lat len lnk ser cor fe dep wid n N) : ∀ (r : Nat) (v : Int), 0 ≤ v → v < N → len v ≤ r → 1 ≤ dep v ∧ dep v ≤ len v := by
  obtain ⟨s1, s2, s3, s4, s5, s6, s7⟩ := h.2.2.2.1
  intro r
  induction r with
  | zero => intro v v0 v1 hl; have := zNd_Z h.2.2.1 v0 v1; omega
  | succ r ih =>
    intro v v0 v1 hl
    have hs := h.2.2.2.2.2.2.2.1 v v0 v1
    rcases h.2.2.2.2.2.1 v v0 v1 with ⟨a, b⟩ | ⟨a, b, c, d, e⟩
    · rw [b, s7] at hs; omega
    · have d2 := d.2.1
      have := ih (lnk v) b c (by omega)
      omega
end LD
/-- the same row in two texts -/
def zsm (x y : Int → Int) (i j k : Int) : Prop := ∀ d, 0 ≤ d → d < k → x (i + d) = y (j + d)
section Q5
variable {m : zM} {o : Nat}
theorem fp5 {v : Int} (h : 0 ≤ v ∧ v < 50) : FX1_firstPlace o v m = some (m (o + 7) v - m (o + 3) v + 1) := by
  unfold FX1_firstPlace
  rw [zrd_p h, zrd_p h]
theorem stands5 {c : Nat} {p j k : Int} (h1 : 0 ≤ p) (h2 : p + k ≤ 48) (h3 : 0 ≤ j) (h4 : j + k ≤ 48) (h5 : 0 ≤ k) (hr : ∀ i, 0 ≤ i → i < 48 → p ≤ i → i < p + k → zR (m (o + 1) i)) (hr2 : ∀ i, j ≤ i → i < j + k → zR (m c i)) : ∃ r, FX1_standsAt o p c 48 j k m = some r ∧ zyn r (zsm (m (o + 1)) (m c) p j k) := by
  unfold FX1_standsAt
  refine zlo1 (FX1_standsAt_L3 o p c 48 j k m (fun _ => some 1)) (fun r v => v + r = k ∧ 0 ≤ v ∧ ∀ d, 0 ≤ d → d < v → m (o + 1) (p + d) = m c (j + d)) (fun x => ∃ r, x = some r ∧ zyn r (zsm (m (o + 1)) (m c) p j k)) ?_ ?_ k.toNat zfu 0 ⟨by omega, by omega, fun d d0 d1 => by omega⟩ (by show _ < 4000; omega)
  · intro f r v ⟨i1, i2, i3⟩
    have e1 := hr (p + v) (by omega) (by omega) (by omega) (by omega)
    have e2 := hr2 (j + v) (by omega) (by omega)
    rw [FX1_standsAt_L3_s]
    unfold FX1_standsAt_L3_B
    rw [if_pos (zlt_i (by omega)), zrd_p ⟨by omega, by omega⟩, zrd_p ⟨by omega, by omega⟩]
    by_cases c' : m (o + 1) (p + v) = m c (j + v)
    · rw [if_pos (by rw [c'])]
      refine Or.inr ⟨v + 1, rfl, by omega, by omega, fun d d0 d1 => ?_⟩
      by_cases e : d = v
      · subst e; exact c'
      · exact i3 d d0 (by omega)
    · rw [if_neg (zne_i ⟨e1.1, e1.2, e2.1, e2.2, c'⟩)]
      exact Or.inl ⟨0, rfl, Or.inr ⟨rfl, fun q => c' (q v i2 (by omega))⟩⟩
  · intro f v ⟨i1, i2, i3⟩
    rw [FX1_standsAt_L3_s]
    unfold FX1_standsAt_L3_B
    rw [if_neg (znlt_i (by omega))]
    exact ⟨1, rfl, Or.inl ⟨rfl, fun d d0 d1 => i3 d d0 (by omega)⟩⟩
/-- the class's look for a row among its nodes -/
theorem nodeOf5 (h : zCI m o) {c : Nat} {j k : Int} (h3 : 0 ≤ j) (h4 : j + k ≤ 48) (h5 : 0 ≤ k) (hr2 : ∀ i, j ≤ i → i < j + k → zR (m c i)) : ∃ r, FX1_nodeOf o c 48 j k m = some r ∧ ((0 ≤ r ∧ r < m o 10 ∧ m (o + 3) r = k ∧ zsm (m (o + 1)) (m c) (m (o + 7) r - m (o + 3) r + 1) j k) ∨ (r = -1 ∧ ∀ v, 0 ≤ v → v < m o 10 → m (o + 3) v = k → ¬ zsm (m (o + 1)) (m c) (m (o + 7) v - m (o + 3) v + 1) j k)) := by
  have hN := zci_N h
  unfold FX1_nodeOf
  refine zlo1 (FX1_nodeOf_L3 o c 48 j k m (fun _ => some (-1))) (fun r v => v + r = m o 10 ∧ 0 ≤ v ∧ ∀ u, 0 ≤ u → u < v → m (o + 3) u = k → ¬ zsm (m (o + 1)) (m c) (m (o + 7) u - m (o + 3) u + 1) j k) (fun x => ∃ r, x = some r ∧ ((0 ≤ r ∧ r < m o 10 ∧ m (o + 3) r = k ∧ zsm (m (o + 1)) (m c) (m (o + 7) r - m (o + 3) r + 1) j k) ∨ (r = -1 ∧ ∀ v, 0 ≤ v → v < m o 10 → m (o + 3) v = k → ¬ zsm (m (o + 1)) (m c) (m (o + 7) v - m (o + 3) v + 1) j k))) ?_ ?_ (m o 10).toNat zfu 0 ⟨by omega, by omega, fun d d0 d1 => by omega⟩ (by show _ < 4000; omega)
  · intro f r v ⟨i1, i2, i3⟩
    obtain ⟨z1, z2, z3, z4⟩ := zNd_Z h.2.2.1 i2 (by omega : v < m o 10)
    rw [FX1_nodeOf_L3_s]
    unfold FX1_nodeOf_L3_B
    rw [if_pos (zlt_i (by omega)), zrd_p ⟨by omega, by omega⟩]
    by_cases c' : m (o + 3) v = k
    · obtain ⟨q, q1, q2⟩ := stands5 (m := m) (o := o) (c := c) (p := m (o + 7) v - m (o + 3) v + 1) (j := j) (k := k) (by omega) (by omega) h3 h4 h5 (fun i i0 i1 i2' i3' => by
        have := h.2.1 i i0 (by omega); omega) hr2
      rw [if_pos (by rw [c']), zcl_p (fp5 ⟨by omega, by omega⟩), zcl_p q1]
      by_cases c2 : zsm (m (o + 1)) (m c) (m (o + 7) v - m (o + 3) v + 1) j k
      · rw [if_neg (zyn_1 q2 c2)]
        exact Or.inl ⟨v, rfl, Or.inl ⟨i2, by omega, c', c2⟩⟩
      · rw [if_pos (zyn_0 q2 c2)]
        refine Or.inr ⟨v + 1, rfl, by omega, by omega, fun u u0 u1 hu hs => ?_⟩
        by_cases e : u = v
        · subst e; exact c2 hs
        · exact i3 u u0 (by omega) hu hs
    · rw [if_neg (zne_i (by omega))]
      refine Or.inr ⟨v + 1, rfl, by omega, by omega, fun u u0 u1 hu hs => ?_⟩
      by_cases e : u = v
      · subst e; exact c' hu
      · exact i3 u u0 (by omega) hu hs
  · intro f v ⟨i1, i2, i3⟩
    rw [FX1_nodeOf_L3_s]
    unfold FX1_nodeOf_L3_B
    rw [if_neg (znlt_i (by omega))]
    exact ⟨-1, rfl, Or.inr ⟨rfl, fun u u0 u1 hu => i3 u u0 (by omega) hu⟩⟩
/-- at how many places -/
theorem places5 (h : zCI m o) {c : Nat} {j k : Int} (h3 : 0 ≤ j) (h4 : j + k ≤ 48) (h5 : 1 ≤ k) (hr2 : ∀ i, j ≤ i → i < j + k → zR (m c i)) : FX1_places o c 48 j k m = some (zct (fun p => zsm (m (o + 1)) (m c) p j k) (m o 9 - k + 1).toNat) := by
  have hN := zci_N h
  have hb := h.1
  unfold FX1_places
  by_cases c0 : k ≤ m o 9
  · refine zlo2 (FX1_places_L6 o c 48 j k m (fun y _ => some y)) (fun r u v => v + r = m o 9 - k + 1 ∧ 0 ≤ v ∧ u = zct (fun p => zsm (m (o + 1)) (m c) p j k) v.toNat) (fun x => x = some (zct (fun p => zsm (m (o + 1)) (m c) p j k) (m o 9 - k + 1).toNat)) ?_ ?_ (m o 9 - k + 1).toNat zfu 0 0 ⟨by omega, by omega, rfl⟩ (by show _ < 4000; omega)
    · intro f r u v ⟨i1, i2, i3⟩
      obtain ⟨q, q1, q2⟩ := stands5 (m := m) (o := o) (c := c) (p := v) (j := j) (k := k) (by omega) (by omega) h3 h4 (by omega) (fun i i0 i1 i2' i3' => by
          have := h.2.1 i i0 (by omega); omega) hr2
      rw [FX1_places_L6_s]
      unfold FX1_places_L6_B
      rw [if_neg (znlt_i (by omega)), zcl_p q1]
      have e : zct (fun p => zsm (m (o + 1)) (m c) p j k) (v + 1).toNat = u + zin (zsm (m (o + 1)) (m c) v j k) := by
        rw [show (v + 1).toNat = v.toNat + 1 by omega, zct_s, i3, show ((v.toNat : Nat) : Int) = v by omega]
      by_cases c2 : zsm (m (o + 1)) (m c) v j k
      · rw [if_neg (zyn_1 q2 c2)]
        exact Or.inr ⟨u + 1, v + 1, rfl, by omega, by omega, by rw [e, zin_1 c2]⟩
      · rw [if_pos (zyn_0 q2 c2)]
        exact Or.inr ⟨u, v + 1, rfl, by omega, by omega, by rw [e, zin_0 c2]; omega⟩
    · intro f u v ⟨i1, i2, i3⟩
      rw [FX1_places_L6_s]
      unfold FX1_places_L6_B
      rw [if_pos (zlt_i (by omega)), i3, show v = m o 9 - k + 1 by omega]
  · show FX1_places_L6 o c 48 j k m (fun y _ => some y) (3999 + 1) 0 0 = _
    rw [FX1_places_L6_s]
    unfold FX1_places_L6_B
    rw [if_pos (zlt_i (by omega)), show (m o 9 - k + 1).toNat = 0 by omega]
    rfl
end Q5
