/-! common -/
section CM
variable {mC mM : zM}
/-- a row of the text stands in an image -/
def zGt (m : zM) (k i n : Int) : Prop := ∃ p, 0 ≤ p ∧ p + n ≤ m 4 k ∧ ∀ d, 0 ≤ d → d < n → m 3 (48 * k + p + d) = m 1 (i + d)
theorem img30 {m : zM} (h : zTm m) {k i n p : Int} {K : Int → Int → Option Int} (hk : 0 ≤ k ∧ k < 2) (hi : 0 ≤ i) (hn : 0 ≤ n) (h1 : i + n ≤ m 0 0) (hp : 0 ≤ p) (h2 : p + n ≤ 48) (hg : ∀ d, 0 ≤ d → d < n → 0 ≤ m 3 (48 * k + p + d) ∧ m 3 (48 * k + p + d) ≤ 5) : ∃ r o, FX6_isImaged_L30 k i n p m K zfu 1 0 = K r o ∧ zyn r (∀ d, 0 ≤ d → d < n → m 3 (48 * k + p + d) = m 1 (i + d)) := by
  have hb := h.2.1
  have hw := wl_all (FX6_isImaged_L30 k i n p m K) K (fun d => m 3 (48 * k + p + d) = m 1 (i + d)) 0 n
    (fun f d d0 d1 => by
      have a1 := h.2.2 (i + d) (by omega) (by omega)
      have a2 := hg d d0 d1
      constructor
      · intro c
        rw [FX6_isImaged_L30_s]
        unfold FX6_isImaged_L30_B
        rw [if_pos (zlt_i (by omega)), if_neg zI_ne10, zrd_p ⟨by omega, by omega⟩, zrd_p ⟨by omega, by omega⟩, if_pos (by rw [c])]
      · intro c
        rw [FX6_isImaged_L30_s]
        unfold FX6_isImaged_L30_B
        rw [if_pos (zlt_i (by omega)), if_neg zI_ne10, zrd_p ⟨by omega, by omega⟩, zrd_p ⟨by omega, by omega⟩, if_neg (zne_i ⟨by omega, by omega, by omega, by omega, c⟩)])
    (fun f is => by
      rw [FX6_isImaged_L30_s]
      unfold FX6_isImaged_L30_B
      rw [if_neg (znlt_i (by omega))])
    (fun f d d0 d1 => by
      rw [FX6_isImaged_L30_s]
      unfold FX6_isImaged_L30_B
      rw [if_pos (zlt_i (by omega)), if_pos rfl])
    n.toNat zfu 0 (by omega) (by omega) (by show _ ≤ 4000; omega)
  rcases hw with ⟨d', q1, q2⟩ | ⟨d', q1, e, q2, q3, q4⟩
  · exact ⟨1, d', q1, Or.inl ⟨rfl, q2⟩⟩
  · exact ⟨0, d', q1, Or.inr ⟨rfl, fun hh => q4 (hh e q2 q3)⟩⟩
theorem img6 {m : zM} (h : zTm m) {k i n : Int} (hk : 0 ≤ k ∧ k < 2) (hi : 0 ≤ i) (hn : 1 ≤ n) (h1 : i + n ≤ m 0 0) (hm : 0 ≤ m 4 k ∧ m 4 k ≤ 48) (hg : ∀ q, 0 ≤ q → q < m 4 k → 0 ≤ m 3 (48 * k + q) ∧ m 3 (48 * k + q) ≤ 5) : ∃ r, FX6_isImaged k i n m = some r ∧ zyn r (zGt m k i n) := by
  have hb := h.2.1
  unfold FX6_isImaged
  refine zlo2 (FX6_isImaged_L6 k i n m (fun y6_4 y6_5 => zgd (y6_4 = 0 ∨ y6_4 = 1) <| some y6_4)) (fun r a v => 0 ≤ v ∧ v + r = 49 ∧ ((a = 0 ∧ ∀ p, 0 ≤ p → p < v → p + n ≤ m 4 k → ¬ ∀ d, 0 ≤ d → d < n → m 3 (48 * k + p + d) = m 1 (i + d)) ∨ (a = 1 ∧ zGt m k i n))) (fun z => ∃ r, z = some r ∧ zyn r (zGt m k i n)) ?_ ?_ 49 zfu 0 0 ⟨by omega, by omega, Or.inl ⟨rfl, fun p p0 p1 => by omega⟩⟩ (by show _ < 4000; omega)
  · intro f r a v ⟨i1, i2, i3⟩
    rw [FX6_isImaged_L6_s]
    unfold FX6_isImaged_L6_B
    rw [zrd_p ⟨by omega, by omega⟩]
    rcases i3 with ⟨j1, j2⟩ | ⟨j1, j2⟩
    · by_cases c : m 4 k < v + n
      · rw [if_pos (zlt_i (by omega)), j1]
        refine Or.inl ⟨0, zgd_p (by omega), Or.inr ⟨rfl, ?_⟩⟩
        rintro ⟨p, p0, p1, p2⟩
        exact j2 p p0 (by omega) p1 p2
      · obtain ⟨q, o, q1, q2⟩ := img30 h (k := k) (i := i) (n := n) (p := v) (K := fun y30_6 y30_7 => FX6_isImaged_L6 k i n m (fun y6_4 y6_5 => zgd (y6_4 = 0 ∨ y6_4 = 1) <| some y6_4) f y30_6 (v + 1)) hk hi (by omega) h1 i1 (by omega) (fun d d0 d1 => by
          have := hg (v + d) (by omega) (by omega)
          rw [show 48 * k + (v + d) = 48 * k + v + d by omega] at this
          exact this)
        rw [if_neg (znlt_i (by omega)), j1, if_pos rfl, q1]
        refine Or.inr ⟨q, v + 1, rfl, by omega, by omega, ?_⟩
        rcases q2 with ⟨e1, e2⟩ | ⟨e1, e2⟩
        · exact Or.inr ⟨e1, v, i1, by omega, e2⟩
        · refine Or.inl ⟨e1, fun p p0 p1 p2 => ?_⟩
          by_cases e : p = v
          · subst e; exact e2
          · exact j2 p p0 (by omega) p2
    · refine Or.inl ⟨1, ?_, Or.inl ⟨rfl, j2⟩⟩
      by_cases c : m 4 k < v + n
      · rw [if_pos (zlt_i (by omega)), j1]; exact zgd_p (by omega)
      · rw [if_neg (znlt_i (by omega)), j1, if_neg zI_ne10]; exact zgd_p (by omega)
  · intro f a v ⟨i1, i2, i3⟩
    rw [FX6_isImaged_L6_s]
    unfold FX6_isImaged_L6_B
    rw [zrd_p ⟨by omega, by omega⟩, if_pos (zlt_i (by omega))]
    rcases i3 with ⟨j1, j2⟩ | ⟨j1, j2⟩
    · rw [j1]
      refine ⟨0, zgd_p (by omega), Or.inr ⟨rfl, ?_⟩⟩
      rintro ⟨p, p0, p1, p2⟩
      exact j2 p p0 (by omega) p1 p2
    · rw [j1]
      exact ⟨1, zgd_p (by omega), Or.inl ⟨rfl, j2⟩⟩
theorem common46 {m : zM} {lat len lnk ser cor fe dep wid : Int → Int} {N k a2 : Int} {K : Int → Int → Int → Option (Int × zM)} (h : zLd m lat len lnk ser cor fe dep wid N) (hk : 0 ≤ k ∧ k < 2) (hm : 0 ≤ m 4 k ∧ m 4 k ≤ 48) (hg : ∀ q, 0 ≤ q → q < m 4 k → 0 ≤ m 3 (48 * k + q) ∧ m 3 (48 * k + q) ≤ 5) : ∃ t, FX6_common_L46 k a2 m K zfu 0 0 0 = K (zct (fun v => zGt m k (fe v + 1 - len v) (len v)) N.toNat) t N ∧ (∀ v, 0 ≤ v → v < N → zGt m k (fe v + 1 - len v) (len v) → len v ≤ t) ∧ ((t = 0 ∧ ∀ v, 0 ≤ v → v < N → ¬ zGt m k (fe v + 1 - len v) (len v)) ∨ ∃ v, 0 ≤ v ∧ v < N ∧ zGt m k (fe v + 1 - len v) (len v) ∧ len v = t) := by
  have hN := zci_N h.2.1
  refine zlo3 (FX6_common_L46 k a2 m K) (fun r s t v => v + r = N ∧ 0 ≤ v ∧ s = zct (fun v => zGt m k (fe v + 1 - len v) (len v)) v.toNat ∧ (∀ u, 0 ≤ u → u < v → zGt m k (fe u + 1 - len u) (len u) → len u ≤ t) ∧ ((t = 0 ∧ ∀ u, 0 ≤ u → u < v → ¬ zGt m k (fe u + 1 - len u) (len u)) ∨ ∃ u, 0 ≤ u ∧ u < v ∧ zGt m k (fe u + 1 - len u) (len u) ∧ len u = t)) (fun z => ∃ t, z = K (zct (fun v => zGt m k (fe v + 1 - len v) (len v)) N.toNat) t N ∧ (∀ v, 0 ≤ v → v < N → zGt m k (fe v + 1 - len v) (len v) → len v ≤ t) ∧ ((t = 0 ∧ ∀ v, 0 ≤ v → v < N → ¬ zGt m k (fe v + 1 - len v) (len v)) ∨ ∃ v, 0 ≤ v ∧ v < N ∧ zGt m k (fe v + 1 - len v) (len v) ∧ len v = t)) ?_ ?_ N.toNat zfu 0 0 0 ⟨by omega, by omega, rfl, fun u u0 u1 => by omega, Or.inl ⟨rfl, fun u u0 u1 => by omega⟩⟩ (by show _ < 4000; omega)
  · intro f r s t v ⟨i1, i2, i3, i4, i5⟩
    have hz := zLd_Z h i2 (show v < N by omega)
    have hb := h.1.2.1
    obtain ⟨w1, w2⟩ := h.2.2.2 v i2 (by omega)
    have ht : 0 ≤ t ∧ t ≤ 48 := by
      rcases i5 with ⟨q, _⟩ | ⟨u, u0, u1, u2, u3⟩
      · omega
      · have := zLd_Z h u0 (show u < N by omega); omega
    obtain ⟨q, q1, q2⟩ := img6 h.1 (k := k) (i := fe v + 1 - len v) (n := len v) hk (by omega) hz.1 (by omega) hm hg
    have e : zct (fun v => zGt m k (fe v + 1 - len v) (len v)) (v + 1).toNat = s + zin (zGt m k (fe v + 1 - len v) (len v)) := by
      rw [show (v + 1).toNat = v.toNat + 1 by omega, zct_s, i3, show ((v.toNat : Nat) : Int) = v by omega]
    rw [FX6_common_L46_s]
    unfold FX6_common_L46_B
    rw [h.2.2.1, if_pos (zlt_i (by omega)), zrd_p ⟨by omega, by omega⟩, zrd_p ⟨by omega, by omega⟩, w1, w2, zcl_p q1, zjn_p]
    dsimp only
    by_cases c : zGt m k (fe v + 1 - len v) (len v)
    · have z := zyn_1 q2 c
      rw [if_neg z, if_neg z, zrd_p ⟨by omega, by omega⟩, w1]
      by_cases c2 : t < len v
      · rw [if_pos (zlt_i (by omega)), zrd_p ⟨by omega, by omega⟩, w1]
        refine Or.inr ⟨_, _, v + 1, rfl, by omega, by omega, by rw [e, zin_1 c], fun u u0 u1 hu => ?_, Or.inr ⟨v, i2, by omega, c, rfl⟩⟩
        by_cases e' : u = v
        · subst e'; omega
        · have := i4 u u0 (by omega) hu; omega
      · rw [if_neg (znlt_i (by omega))]
        refine Or.inr ⟨_, _, v + 1, rfl, by omega, by omega, by rw [e, zin_1 c], fun u u0 u1 hu => ?_, ?_⟩
        · by_cases e' : u = v
          · subst e'; omega
          · exact i4 u u0 (by omega) hu
        · rcases i5 with ⟨q, _⟩ | ⟨u, u0, u1, u2, u3⟩
          · omega
          · exact Or.inr ⟨u, u0, by omega, u2, u3⟩
    · have z := zyn_0 q2 c
      rw [if_pos z, if_pos z]
      refine Or.inr ⟨_, _, v + 1, rfl, by omega, by omega, by rw [e, zin_0 c], fun u u0 u1 hu => ?_, ?_⟩
      · by_cases e' : u = v
        · subst e'; exact absurd hu c
        · exact i4 u u0 (by omega) hu
      · rcases i5 with ⟨q, q'⟩ | ⟨u, u0, u1, u2, u3⟩
        · refine Or.inl ⟨q, fun u u0 u1 hu => ?_⟩
          by_cases e' : u = v
          · subst e'; exact c hu
          · exact q' u u0 (by omega) hu
        · exact Or.inr ⟨u, u0, by omega, u2, u3⟩
  · intro f s t v ⟨i1, i2, i3, i4, i5⟩
    have e : v = N := by omega
    subst e
    rw [FX6_common_L46_s]
    unfold FX6_common_L46_B
    rw [h.2.2.1, if_neg (znlt_i (by omega)), i3]
    exact ⟨t, rfl, i4, i5⟩
/-- a node of the other catalogue is a node of the text -/
def zHt (m : zM) (v : Int) : Prop := ∃ r, 0 ≤ r ∧ r < m 1 10 ∧ m 4 r = m 14 v ∧ zsm (m 2) (m 12) (m 8 r - m 4 r + 1) (m 18 v - m 14 v + 1) (m 14 v)
theorem common63 {m : zM} {a1 a2 : Int} {K : Int → Int → Int → Option (Int × zM)} (h1 : zCI m 1) (h2 : zCI m 11) : ∃ t, FX5_common_L63 a1 a2 m K zfu 0 0 0 = K (zct (zHt m) (m 11 10).toNat) t (m 11 10) ∧ (∀ v, 0 ≤ v → v < m 11 10 → zHt m v → m 14 v ≤ t) ∧ ((t = 0 ∧ ∀ v, 0 ≤ v → v < m 11 10 → ¬ zHt m v) ∨ ∃ v, 0 ≤ v ∧ v < m 11 10 ∧ zHt m v ∧ m 14 v = t) := by
  have hN : 0 ≤ m 11 10 ∧ m 11 10 ≤ m 11 9 ∧ m 11 9 ≤ 48 := zci_N h2
  have hN1 : 0 ≤ m 1 10 ∧ m 1 10 ≤ m 1 9 ∧ m 1 9 ≤ 48 := zci_N h1
  have hZ : ∀ v, 0 ≤ v → v < m 11 10 → 1 ≤ m 14 v ∧ m 14 v ≤ m 18 v + 1 ∧ 0 ≤ m 18 v ∧ m 18 v < m 11 9 := fun v v0 v1 => zNd_Z h2.2.2.1 v0 v1
  refine zlo3 (FX5_common_L63 a1 a2 m K) (fun r s t v => v + r = m 11 10 ∧ 0 ≤ v ∧ s = zct (zHt m) v.toNat ∧ (∀ u, 0 ≤ u → u < v → zHt m u → m 14 u ≤ t) ∧ ((t = 0 ∧ ∀ u, 0 ≤ u → u < v → ¬ zHt m u) ∨ ∃ u, 0 ≤ u ∧ u < v ∧ zHt m u ∧ m 14 u = t)) (fun z => ∃ t, z = K (zct (zHt m) (m 11 10).toNat) t (m 11 10) ∧ (∀ v, 0 ≤ v → v < m 11 10 → zHt m v → m 14 v ≤ t) ∧ ((t = 0 ∧ ∀ v, 0 ≤ v → v < m 11 10 → ¬ zHt m v) ∨ ∃ v, 0 ≤ v ∧ v < m 11 10 ∧ zHt m v ∧ m 14 v = t)) ?_ ?_ (m 11 10).toNat zfu 0 0 0 ⟨by omega, by omega, rfl, fun u u0 u1 => by omega, Or.inl ⟨rfl, fun u u0 u1 => by omega⟩⟩ (by show _ < 4000; omega)
  · intro f r s t v ⟨i1, i2, i3, i4, i5⟩
    have hz := hZ v i2 (by omega)
    have ht : 0 ≤ t ∧ t ≤ 48 := by
      rcases i5 with ⟨q, _⟩ | ⟨u, u0, u1, u2, u3⟩
      · omega
      · have := hZ u u0 (by omega); omega
    have ff : FX1_firstPlace 11 v m = some (m 18 v - m 14 v + 1) := fp5 ⟨by omega, by omega⟩
    obtain ⟨q, q1, q2⟩ := nodeOf5 h1 (c := 12) (j := m 18 v - m 14 v + 1) (k := m 14 v) (by omega) (by omega) (by omega) (fun i i0 i1 => by
      have w : 97 ≤ m 12 i ∧ m 12 i ≤ 102 := h2.2.1 i (by omega) (show i < m 11 9 by omega)
      omega)
    have q2 : (0 ≤ q ∧ q < m 1 10 ∧ m 4 q = m 14 v ∧ zsm (m 2) (m 12) (m 8 q - m 4 q + 1) (m 18 v - m 14 v + 1) (m 14 v)) ∨ (q = -1 ∧ ∀ u, 0 ≤ u → u < m 1 10 → m 4 u = m 14 v → ¬ zsm (m 2) (m 12) (m 8 u - m 4 u + 1) (m 18 v - m 14 v + 1) (m 14 v)) := q2
    have e : zct (zHt m) (v + 1).toNat = s + zin (zHt m v) := by
      rw [show (v + 1).toNat = v.toNat + 1 by omega, zct_s, i3, show ((v.toNat : Nat) : Int) = v by omega]
    rw [FX5_common_L63_s]
    unfold FX5_common_L63_B
    rw [if_pos (zlt_i (by omega)), zrd_p ⟨by omega, by omega⟩, zcl_p ff, zcl_p q1]
    rcases q2 with ⟨e1, e2, e3, e4⟩ | ⟨e1, e2⟩
    · have c : zHt m v := ⟨q, e1, e2, e3, e4⟩
      rw [if_neg (zne_i (by omega))]
      have hmax : ∃ t', FJ9_max_7cf53 t (m 14 v) = some t' ∧ ((t < m 14 v ∧ t' = m 14 v) ∨ (m 14 v ≤ t ∧ t' = t)) := by
        unfold FJ9_max_7cf53
        by_cases c2 : t < m 14 v
        · rw [if_pos (zlt_i (by omega))]; exact ⟨_, rfl, Or.inl ⟨c2, rfl⟩⟩
        · rw [if_neg (znlt_i (by omega))]; exact ⟨_, rfl, Or.inr ⟨by omega, rfl⟩⟩
      obtain ⟨t', t1, t2⟩ := hmax
      rw [zcl_p t1]
      refine Or.inr ⟨_, _, v + 1, rfl, by omega, by omega, by rw [e, zin_1 c], fun u u0 u1 hu => ?_, ?_⟩
      · by_cases e' : u = v
        · subst e'; omega
        · have := i4 u u0 (by omega) hu; omega
      · rcases t2 with ⟨t2, t3⟩ | ⟨t2, t3⟩
        · exact Or.inr ⟨v, i2, by omega, c, t3.symm⟩
        · rcases i5 with ⟨q, _⟩ | ⟨u, u0, u1, u2, u3⟩
          · omega
          · exact Or.inr ⟨u, u0, by omega, u2, by omega⟩
    · have c : ¬ zHt m v := fun ⟨u, u0, u1, u2, u3⟩ => e2 u u0 u1 u2 u3
      rw [if_pos (by rw [e1])]
      refine Or.inr ⟨_, _, v + 1, rfl, by omega, by omega, by rw [e, zin_0 c]; omega, fun u u0 u1 hu => ?_, ?_⟩
      · by_cases e' : u = v
        · subst e'; exact absurd hu c
        · exact i4 u u0 (by omega) hu
      · rcases i5 with ⟨q, q'⟩ | ⟨u, u0, u1, u2, u3⟩
        · refine Or.inl ⟨q, fun u u0 u1 hu => ?_⟩
          by_cases e' : u = v
          · subst e'; exact c hu
          · exact q' u u0 (by omega) hu
        · exact Or.inr ⟨u, u0, by omega, u2, u3⟩
  · intro f s t v ⟨i1, i2, i3, i4, i5⟩
    have e : v = m 11 10 := by omega
    rw [FX5_common_L63_s]
    unfold FX5_common_L63_B
    rw [if_neg (znlt_i (by omega)), i3, e]
    rw [e] at i4 i5
    exact ⟨t, rfl, i4, i5⟩
theorem S_common (h : zRel mC mM) : zS_common zRel mC mM := by
  intro a1 h1 a2 h2
  obtain ⟨r1, p1, p2⟩ := w5 (a := a1) (lo := 0) (hi := 1) ⟨h1, by omega, by omega⟩
  obtain ⟨r2, p3, p4⟩ := w6 (a := a1) (lo := 0) (hi := 1) ⟨h1, by omega, by omega⟩
  obtain ⟨r3, p5, p6⟩ := w5 (a := a2) (lo := 0) (hi := 1) ⟨h2, by omega, by omega⟩
  obtain ⟨r4, p7, p8⟩ := w6 (a := a2) (lo := 0) (hi := 1) ⟨h2, by omega, by omega⟩
  unfold FX5_common FX6_common
  rw [zcl_p p1, zgd_p h1, zcl_p p3]
  by_cases c : 0 ≤ a1 ∧ a1 ≤ 1
  · rw [if_neg (zyn_1 p2 c), if_neg (zyn_1 p4 c), zcl_p p5, zgd_p h2, zcl_p p7]
    by_cases c2 : 0 ≤ a2 ∧ a2 ≤ 1
    · obtain ⟨g1, g2, g3⟩ := h.ig a1 c.1 (by omega)
      rw [if_neg (zyn_1 p6 c2), if_neg (zyn_1 p8 c2), zix_p ⟨by omega, by omega⟩, zrd_p ⟨by omega, by omega⟩]
      by_cases c3 : mM 4 a1 = -1
      · rw [if_pos (by rw [g1, c3]), if_pos (by rw [c3]; exact zlt_i (by omega))]
        exact ⟨_, _, _, rfl, rfl, h⟩
      · obtain ⟨m4, d1, d2, d3, d4, d5⟩ := load_spec (o := 11) (c := 29 + 2 * a1.toNat + 1) (n1 := 48) (i := 0) (j := mM 4 a1) h.cr (by omega) (by omega) (by omega) (by omega) (by omega) (fun q q0 q1 => by have := g3 q q0 q1; omega)
        have d4 : ∀ q, 0 ≤ q → q < mM 4 a1 - 0 → m4 12 q = mC (29 + 2 * a1.toNat + 1) (0 + q) := d4
        have d3 : m4 11 9 = mM 4 a1 := by omega
        have hx : ∀ q, 0 ≤ q → q < mM 4 a1 → m4 12 q = 97 + mM 3 (48 * a1 + q) := fun q q0 q1 => by
          rw [d4 q q0 (by omega), show 0 + q = q by omega]; exact (g3 q q0 q1).1
        obtain ⟨m6, l1, l2, l3, l4⟩ := lay_t h
        have hE : zcE mC m4 := zcE_fr d2 d5
        have hR : zRel m4 m6 := zRel_E h hE (zmE_lf l4)
        have e4 : m6 4 = mM 4 := l4.1 4 (by omega) (by omega) (by omega)
        have e3 : m6 3 = mM 3 := l4.1 3 (by omega) (by omega) (by omega)
        have ec : ∀ c : Nat, c ≤ 10 → m4 c = mC c := fun c hc => d5 c (by omega)
        have n3 : ¬ zI (mM 4 a1) = zI (-1) := zne_i (by omega)
        have n3' : ¬ zI (mM 4 a1) < zI 0 := znlt_i (by omega)
        rw [if_neg (by rw [g1]; exact n3), g1, zcl_p d1, if_neg n3', zcl_p l1]
        obtain ⟨t, t1, t2, t3⟩ := common63 (m := m4) (a1 := a1) (a2 := a2) (K := fun y63_4 y63_5 y63_6 => if zI a2 = zI 0 then (some (y63_4, m4)) else (some (y63_5, m4))) hR.t.ct d2
        obtain ⟨u, u1, u2, u3⟩ := common46 (a2 := a2) (K := fun y46_3 y46_4 y46_5 => if zI a2 = zI 0 then (some (y46_3, m6)) else (some (y46_4, m6))) l2 (k := a1) (by omega) (by rw [e4]; omega) (fun q q0 q1 => by rw [e3]; rw [e4] at q1; exact (g3 q q0 q1).2)
        rw [t1, u1]
        have hN : 0 ≤ mC 1 10 ∧ mC 1 10 ≤ mC 1 9 ∧ mC 1 9 ≤ 48 := zci_N h.t.ct
        have hN2 : 0 ≤ m4 11 10 ∧ m4 11 10 ≤ m4 11 9 ∧ m4 11 9 ≤ 48 := zci_N d2
        have hd2 : zNd (m4 12) (mM 4 a1) (m4 11 10) (m4 18) (m4 14) := by
          have := d2.2.2.1
          rw [d3] at this
          exact this
        have hx6 : ∀ q, 0 ≤ q → q < mC 1 9 → mC 2 q = 97 + m6 1 q := fun q q0 q1 => l3.t.x q q0 q1
        -- a node of one, and the same row as a node of the other
        have hR1 : ∀ v, 0 ≤ v → v < m4 11 10 → zHt m4 v → ∃ w, 0 ≤ w ∧ w < mC 1 10 ∧ zGt m6 a1 (mC 8 w + 1 - mC 4 w) (mC 4 w) ∧ mC 4 w = m4 14 v ∧ zsm (mC 2) (m4 12) (mC 8 w + 1 - mC 4 w) (m4 18 v + 1 - m4 14 v) (m4 14 v) := by
          rintro v v0 v1 ⟨w, w0, w1, w2, w3⟩
          rw [ec 1 (by omega)] at w1
          rw [ec 4 (by omega)] at w2
          rw [ec 2 (by omega), ec 8 (by omega), ec 4 (by omega)] at w3
          obtain ⟨z1, z2, z3, z4⟩ := zNd_Z hd2 v0 v1
          obtain ⟨y1, y2, y3, y4⟩ := zLd_Z l2 w0 w1
          have b0 : m6 0 0 = mC 1 9 := l3.t.n
          have w4 : zsm (mC 2) (m4 12) (mC 8 w + 1 - mC 4 w) (m4 18 v + 1 - m4 14 v) (m4 14 v) := fun d d0 d1 => by
            have := w3 d d0 d1
            rw [show mC 8 w - mC 4 w + 1 + d = mC 8 w + 1 - mC 4 w + d by omega, show m4 18 v - m4 14 v + 1 + d = m4 18 v + 1 - m4 14 v + d by omega] at this
            exact this
          refine ⟨w, w0, w1, ⟨m4 18 v + 1 - m4 14 v, by omega, by rw [e4]; omega, fun d d0 d1 => ?_⟩, w2, w4⟩
          have q := w4 d d0 (by omega)
          rw [hx _ (by omega) (by omega), hx6 _ (by omega) (by omega)] at q
          rw [e3, show 48 * a1 + (m4 18 v + 1 - m4 14 v) + d = 48 * a1 + (m4 18 v + 1 - m4 14 v + d) by omega]
          omega
        have hR2 : ∀ w, 0 ≤ w → w < mC 1 10 → zGt m6 a1 (mC 8 w + 1 - mC 4 w) (mC 4 w) → ∃ v, 0 ≤ v ∧ v < m4 11 10 ∧ zHt m4 v ∧ mC 4 w = m4 14 v ∧ zsm (mC 2) (m4 12) (mC 8 w + 1 - mC 4 w) (m4 18 v + 1 - m4 14 v) (m4 14 v) := by
          rintro w w0 w1 ⟨p, p0, p1', p2'⟩
          rw [e4] at p1'
          rw [e3] at p2'
          obtain ⟨y1, y2, y3, y4⟩ := zLd_Z l2 w0 w1
          have b0 : m6 0 0 = mC 1 9 := l3.t.n
          have hs : zsm (mC 2) (m4 12) (mC 8 w + 1 - mC 4 w) p (mC 4 w) := fun d d0 d1 => by
            have := p2' d d0 d1
            rw [hx _ (by omega) (by omega), hx6 _ (by omega) (by omega), show 48 * a1 + (p + d) = 48 * a1 + p + d by omega]
            omega
          have hp : zp (m4 12) p (mC 4 w) := fun d d0 d1 => by
            have k1 := hs d d0 d1
            have k2 := hs (mC 4 w - 1 - d) (by omega) (by omega)
            have k3 := (h.t.ct.2.2.1.2.1 w w0 w1).2.2.1.2.2.1 d d0 d1
            have k3 : mC 2 (mC 8 w + 1 - mC 4 w + d) = mC 2 (mC 8 w + 1 - mC 4 w + mC 4 w - 1 - d) := k3
            rw [show mC 8 w + 1 - mC 4 w + (mC 4 w - 1 - d) = mC 8 w + 1 - mC 4 w + mC 4 w - 1 - d by omega, show p + (mC 4 w - 1 - d) = p + mC 4 w - 1 - d by omega] at k2
            exact k1.symm.trans (k3.trans k2)
          obtain ⟨v, v0, v1, v2, v3, v4⟩ := zNd_ex hd2 p.toNat p (mC 4 w) (by omega) y1 (by omega) hp
          have hs2 : zsm (mC 2) (m4 12) (mC 8 w + 1 - mC 4 w) (m4 18 v + 1 - m4 14 v) (m4 14 v) := fun d d0 d1 => (hs d d0 (by omega)).trans (v3 d d0 (by omega)).symm
          refine ⟨v, v0, v1, ⟨w, w0, by rw [ec 1 (by omega)]; exact w1, by rw [ec 4 (by omega)]; exact v2.symm, fun d d0 d1 => ?_⟩, v2.symm, hs2⟩
          have := hs2 d d0 d1
          rw [ec 2 (by omega), ec 8 (by omega), ec 4 (by omega), show mC 8 w - mC 4 w + 1 + d = mC 8 w + 1 - mC 4 w + d by omega, show m4 18 v - m4 14 v + 1 + d = m4 18 v + 1 - m4 14 v + d by omega]
          exact this
        have hcnt : zct (zHt m4) (m4 11 10).toNat = zct (fun v => zGt m6 a1 (mC 8 v + 1 - mC 4 v) (mC 4 v)) (mC 1 10).toNat := by
          refine zct_bij (fun v w => mC 4 w = m4 14 v ∧ zsm (mC 2) (m4 12) (mC 8 w + 1 - mC 4 w) (m4 18 v + 1 - m4 14 v) (m4 14 v)) (fun v v0 v1 hv => ?_) (fun w w0 w1 hw => ?_) (fun v v' w v0 v1 v2 v3 w0 w1 e1 e2 => ?_) (fun v w w' w0 w1 w2 w3 v0 v1 e1 e2 => ?_)
          · obtain ⟨w, w0, w1, w2, w3, w4⟩ := hR1 v v0 (by omega) hv
            exact ⟨w, w0, by omega, w2, w3, w4⟩
          · obtain ⟨v, v0, v1, v2, v3, v4⟩ := hR2 w w0 (by omega) hw
            exact ⟨v, v0, by omega, v2, v3, v4⟩
          · exact zNd_u hd2 v0 (by omega) v2 (by omega) (by omega) (fun d d0 d1 => (e1.2 d d0 d1).symm.trans (e2.2 d d0 (by omega)))
          · exact zNd_u h.t.ct.2.2.1 w0 (show w < mC 1 10 by omega) w2 (show w' < mC 1 10 by omega) (show mC 4 w = mC 4 w' by omega) (fun d d0 d1 => by
              have d1 : d < mC 4 w := d1
              exact (e1.2 d d0 (by omega)).trans (e2.2 d d0 (by omega)).symm)
        have hmx : t = u := by
          have k1 : t ≤ u ∧ u ≤ t := by
            constructor
            · rcases t3 with ⟨q, _⟩ | ⟨v, v0, v1, v2, v3⟩
              · rcases u3 with ⟨q', _⟩ | ⟨w, w0, w1, w2, w3⟩
                · omega
                · have := zLd_Z l2 w0 w1; omega
              · obtain ⟨w, w0, w1, w2, w3, w4⟩ := hR1 v v0 v1 v2
                have := u2 w w0 w1 w2; omega
            · rcases u3 with ⟨q, _⟩ | ⟨w, w0, w1, w2, w3⟩
              · rcases t3 with ⟨q', _⟩ | ⟨v, v0, v1, v2, v3⟩
                · omega
                · have := zNd_Z hd2 v0 v1; omega
              · obtain ⟨v, v0, v1, v2, v3, v4⟩ := hR2 w w0 w1 w2
                have := t2 v v0 v1 v2; omega
          omega
        rw [hcnt, hmx]
        by_cases c6 : a2 = 0
        · have z6 : zI a2 = zI 0 := by rw [c6]
          rw [if_pos z6, if_pos z6]
          exact ⟨_, _, _, rfl, rfl, hR⟩
        · have z6 : ¬ zI a2 = zI 0 := zne_i (by omega)
          rw [if_neg z6, if_neg z6]
          exact ⟨_, _, _, rfl, rfl, hR⟩
    · rw [if_pos (zyn_0 p6 c2), if_pos (zyn_0 p8 c2)]
      exact ⟨_, _, _, rfl, rfl, h⟩
  · rw [if_pos (zyn_0 p2 c), if_pos (zyn_0 p4 c)]
    exact ⟨_, _, _, rfl, rfl, h⟩
end CM
