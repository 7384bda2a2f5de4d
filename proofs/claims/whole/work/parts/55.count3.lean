/-! count -/
section CT
variable {lat len lnk ser cor fe dep wid : Int → Int} {N n : Int} {x : Int → Int}
/-- node v stands so that it ends at p -/
def zAt (x len fe : Int → Int) (v p : Int) : Prop := len v ≤ p + 1 ∧ zs x (fe v + 1 - len v) (p + 1 - len v) (len v)
theorem zci_at (h : zci x lat len lnk ser cor fe dep wid n N) {p u : Int} (hp : 0 ≤ p) (hp2 : p < n) (u0 : 0 ≤ u) (u1 : u < N) (hu : zAt x len fe u p) : (lnk u = 48 ∧ len u = 1) ∨ (0 ≤ lnk u ∧ lnk u < N ∧ zAt x len fe (lnk u) p ∧ len (lnk u) < len u ∧ ∀ j, len (lnk u) < j → j < len u → ¬ zp x (p + 1 - j) j) := by
  obtain ⟨hl, hs⟩ := hu
  obtain ⟨z1, z2, z3, z4⟩ := zNd_Z h.2.2.1 u0 u1
  rcases h.2.2.2.2.2.1 u u0 u1 with ⟨a, b⟩ | ⟨a, b, c, d, e⟩
  · exact Or.inl ⟨b, a⟩
  · have d2 := d.2.1
    refine Or.inr ⟨b, c, ⟨by omega, zs_tr e (zs_sub hs (by omega) (by omega) (by omega))⟩, d2, fun j j1 j2 hj => d.2.2.2.2 j j1 j2 (by omega) (zp_s (zs_sy (zs_sub hs (i' := fe u + 1 - j) (j' := p + 1 - j) (b := j) (by omega) (by omega) (by omega))) hj)⟩
theorem zAt_pal (h : zci x lat len lnk ser cor fe dep wid n N) {p v : Int} (v0 : 0 ≤ v) (v1 : v < N) (hv : zAt x len fe v p) : zp x (p + 1 - len v) (len v) := zp_s hv.2 (h.2.2.1.2.1 v v0 v1).2.2.1.2.2.1
theorem zAt_u (h : zci x lat len lnk ser cor fe dep wid n N) {p u v : Int} (u0 : 0 ≤ u) (u1 : u < N) (v0 : 0 ≤ v) (v1 : v < N) (hu : zAt x len fe u p) (hv : zAt x len fe v p) (hl : len v = len u) : v = u :=
  zNd_u h.2.2.1 v0 v1 u0 u1 hl (zs_to (zs_tr hv.2 (zs_sy (zs_to hu.2 rfl (by omega) hl))) rfl rfl rfl)
theorem dep_ct (h : zci x lat len lnk ser cor fe dep wid n N) {p : Int} (hp : 0 ≤ p) (hp2 : p < n) : ∀ (r : Nat) (u : Int), (u = 48 ∨ (0 ≤ u ∧ u < N ∧ zAt x len fe u p)) → len u ≤ r → dep u = zct (fun v => zAt x len fe v p ∧ len v ≤ len u) N.toNat := by
  obtain ⟨s1, s2, s3, s4, s5, s6, s7⟩ := h.2.2.2.1
  have hN := zci_N h
  have h48 : dep 48 = zct (fun v => zAt x len fe v p ∧ len v ≤ len 48) N.toNat := by
    have q := zct_out (P := fun v => zAt x len fe v p ∧ len v ≤ len 48) (a := 0) N.toNat (fun i i0 i1 q => by have := zNd_Z h.2.2.1 (v := i) (by omega) (by omega); omega)
    rw [Nat.zero_add] at q
    rw [q, s7]; rfl
  intro r
  induction r with
  | zero =>
    intro u hu hl
    rcases hu with rfl | ⟨a, b, c⟩
    · exact h48
    · have := zNd_Z h.2.2.1 a b; omega
  | succ r ih =>
    intro u hu hl
    rcases hu with rfl | ⟨a, b, c⟩
    · exact h48
    · have hd := h.2.2.2.2.2.2.2.1 u a b
      obtain ⟨z1, z2, z3, z4⟩ := zNd_Z h.2.2.1 a b
      rw [zct_rm (Q := fun v => zAt x len fe v p ∧ len v ≤ len u) a ⟨c, Int.le_refl _⟩ N.toNat (by omega), hd]
      have e : dep (lnk u) = zct (fun v => zAt x len fe v p ∧ len v ≤ len (lnk u)) N.toNat ∧ ∀ v, 0 ≤ v → v < N → ((zAt x len fe v p ∧ len v ≤ len (lnk u)) ↔ ((zAt x len fe v p ∧ len v ≤ len u) ∧ v ≠ u)) := by
        rcases zci_at h hp hp2 a b c with ⟨q1, q2⟩ | ⟨q1, q2, q3, q4, q5⟩
        · refine ⟨ih (lnk u) (Or.inl q1) (by rw [q1]; omega), fun v v0 v1 => ⟨fun hh => ?_, fun hh => ?_⟩⟩
          · have := zNd_Z h.2.2.1 v0 v1
            rw [q1, s1] at hh
            omega
          · have := zNd_Z h.2.2.1 v0 v1
            exact absurd (zAt_u h a b v0 v1 c hh.1.1 (by omega)) hh.2
        · refine ⟨ih (lnk u) (Or.inr ⟨q1, q2, q3⟩) (by omega), fun v v0 v1 => ⟨fun hh => ⟨⟨hh.1, by omega⟩, fun e => by subst e; omega⟩, fun hh => ⟨hh.1.1, ?_⟩⟩⟩
          by_cases e1 : len v = len u
          · exact absurd (zAt_u h a b v0 v1 c hh.1.1 e1) hh.2
          · by_cases e2 : len v ≤ len (lnk u)
            · exact e2
            · exact absurd (zAt_pal h v0 v1 hh.1.1) (q5 (len v) (by omega) (by omega))
      rw [e.1, zct_cg N.toNat (fun v v0 v1 => e.2 v v0 (by omega))]
theorem all_ct (h : zci x lat len lnk ser cor fe dep wid n N) : zsu (fun p => dep (lat p)) n.toNat = zsu (fun v => zct (fun p => zs x p (fe v + 1 - len v) (len v)) (n - len v + 1).toNat) N.toNat := by
  have hN := zci_N h
  have e1 : zsu (fun p => dep (lat p)) n.toNat = zsu (fun p => zsu (fun v => zin (zAt x len fe v p)) N.toNat) n.toNat := zsu_cg _ (fun p p0 p1 => by
    obtain ⟨t1, t2, t3, t4, t5⟩ := h.2.2.2.2.1 p p0 (by omega)
    have hb := zNd_Z h.2.2.1 t1 t2
    rw [dep_ct h p0 (by omega) 48 (lat p) (Or.inr ⟨t1, t2, t3.2.1, t4⟩) (by omega)]
    refine zct_cg _ (fun v v0 v1 => ⟨fun hh => hh.1, fun hh => ⟨hh, ?_⟩⟩)
    by_cases e : len v ≤ len (lat p)
    · exact e
    · exact absurd (zAt_pal h v0 (by omega) hh) (t3.2.2.2 (len v) (by omega) hh.1))
  rw [e1, zsu_swap (fun p v => zin (zAt x len fe v p))]
  refine zsu_cg _ (fun v v0 v1 => ?_)
  have hb := zNd_Z h.2.2.1 v0 (show v < N by omega)
  exact zct_bij (fun p q => q = p + 1 - len v) (fun p p0 p1 hp => ⟨p + 1 - len v, by have := hp.1; omega, by have := hp.1; omega, zs_sy hp.2, rfl⟩) (fun q q0 q1 hq => ⟨q + len v - 1, by omega, by omega, ⟨by omega, zs_to (zs_sy hq) rfl (by omega) rfl⟩, by omega⟩) (fun i i' j _ _ _ _ _ _ a b => by omega) (fun i j j' _ _ _ _ _ _ a b => by omega)
end CT
section CN
variable {mC mM : zM}
theorem allPlaces5 {m : zM} {o : Nat} (h : zCI m o) : FX1_allPlaces o m = some (zsu (fun p => m (o + 8) (m (o + 2) p)) (m o 9).toNat) := by
  have hN := zci_N h
  unfold FX1_allPlaces
  refine zlo2 (FX1_allPlaces_L4 o m (fun y _ => some y)) (fun r a v => v + r = m o 9 ∧ 0 ≤ v ∧ a = zsu (fun p => m (o + 8) (m (o + 2) p)) v.toNat) (fun z => z = some (zsu (fun p => m (o + 8) (m (o + 2) p)) (m o 9).toNat)) ?_ ?_ (m o 9).toNat zfu 0 0 ⟨by omega, by omega, rfl⟩ (by show _ < 4000; omega)
  · intro f r a v ⟨i1, i2, i3⟩
    obtain ⟨t1, t2, -⟩ := h.2.2.2.2.1 v i2 (by omega)
    rw [FX1_allPlaces_L4_s]
    unfold FX1_allPlaces_L4_B
    rw [if_pos (zlt_i (by omega)), zrd_p ⟨by omega, by omega⟩, zrd_p ⟨by omega, by omega⟩]
    refine Or.inr ⟨_, v + 1, rfl, by omega, by omega, ?_⟩
    rw [show (v + 1).toNat = v.toNat + 1 by omega, i3]
    show _ = zsu _ v.toNat + m (o + 8) (m (o + 2) ((v.toNat : Nat) : Int))
    rw [show ((v.toNat : Nat) : Int) = v by omega]
  · intro f a v ⟨i1, i2, i3⟩
    rw [FX1_allPlaces_L4_s]
    unfold FX1_allPlaces_L4_B
    rw [if_neg (znlt_i (by omega)), i3, show v = m o 9 by omega]
theorem evenNodes5 {m : zM} {o : Nat} (h : zCI m o) : FX1_evenNodes o m = some (zsu (fun v => 1 - m (o + 3) v % 2) (m o 10).toNat) := by
  have hN := zci_N h
  unfold FX1_evenNodes
  refine zlo2 (FX1_evenNodes_L4 o m (fun y _ => some y)) (fun r a v => v + r = m o 10 ∧ 0 ≤ v ∧ a = zsu (fun p => 1 - m (o + 3) p % 2) v.toNat) (fun z => z = some (zsu (fun p => 1 - m (o + 3) p % 2) (m o 10).toNat)) ?_ ?_ (m o 10).toNat zfu 0 0 ⟨by omega, by omega, rfl⟩ (by show _ < 4000; omega)
  · intro f r a v ⟨i1, i2, i3⟩
    have hz := zNd_Z h.2.2.1 i2 (show v < m o 10 by omega)
    rw [FX1_evenNodes_L4_s]
    unfold FX1_evenNodes_L4_B
    rw [if_pos (zlt_i (by omega)), zrd_p ⟨by omega, by omega⟩, zgd_p ⟨by omega, by omega, by omega, by omega⟩]
    have e : zsu (fun p => 1 - m (o + 3) p % 2) (v + 1).toNat = a + (1 - m (o + 3) v % 2) := by
      rw [show (v + 1).toNat = v.toNat + 1 by omega, i3]
      show zsu _ v.toNat + (1 - m (o + 3) ((v.toNat : Nat) : Int) % 2) = _
      rw [show ((v.toNat : Nat) : Int) = v by omega]
    by_cases c : m (o + 3) v % 2 = 0
    · rw [if_pos (by rw [c])]
      exact Or.inr ⟨_, v + 1, rfl, by omega, by omega, by rw [e]; omega⟩
    · rw [if_neg (zne_i (by omega))]
      exact Or.inr ⟨_, v + 1, rfl, by omega, by omega, by rw [e]; omega⟩
  · intro f a v ⟨i1, i2, i3⟩
    rw [FX1_evenNodes_L4_s]
    unfold FX1_evenNodes_L4_B
    rw [if_neg (znlt_i (by omega)), i3, show v = m o 10 by omega]
theorem longest5 {m : zM} {o : Nat} (h : zCI m o) : ∃ r, FX1_longestNode o m = some r ∧ ((r = -1 ∧ m o 10 = 0) ∨ (0 ≤ r ∧ r < m o 10 ∧ (∀ v, 0 ≤ v → v < m o 10 → m (o + 3) v ≤ m (o + 3) r) ∧ ∀ v, 0 ≤ v → v < r → m (o + 3) v < m (o + 3) r)) := by
  have hN := zci_N h
  unfold FX1_longestNode
  refine zlo2 (FX1_longestNode_L4 o m (fun y _ => some y)) (fun r a v => v + r = m o 10 ∧ 0 ≤ v ∧ ((a = -1 ∧ v = 0) ∨ (0 ≤ a ∧ a < v ∧ (∀ u, 0 ≤ u → u < v → m (o + 3) u ≤ m (o + 3) a) ∧ ∀ u, 0 ≤ u → u < a → m (o + 3) u < m (o + 3) a))) (fun z => ∃ r, z = some r ∧ ((r = -1 ∧ m o 10 = 0) ∨ (0 ≤ r ∧ r < m o 10 ∧ (∀ v, 0 ≤ v → v < m o 10 → m (o + 3) v ≤ m (o + 3) r) ∧ ∀ v, 0 ≤ v → v < r → m (o + 3) v < m (o + 3) r))) ?_ ?_ (m o 10).toNat zfu (-1) 0 ⟨by omega, by omega, Or.inl ⟨rfl, rfl⟩⟩ (by show _ < 4000; omega)
  · intro f r a v ⟨i1, i2, i3⟩
    have hz := zNd_Z h.2.2.1 i2 (show v < m o 10 by omega)
    rw [FX1_longestNode_L4_s]
    unfold FX1_longestNode_L4_B
    rw [if_pos (zlt_i (by omega))]
    rcases i3 with ⟨j1, j2⟩ | ⟨j1, j2, j3, j4⟩
    · rw [if_pos (by rw [j1])]
      refine Or.inr ⟨v, v + 1, rfl, by omega, by omega, Or.inr ⟨by omega, by omega, fun u u0 u1 => ?_, fun u u0 u1 => by omega⟩⟩
      rw [show u = v by omega]; omega
    · have hz2 := zNd_Z h.2.2.1 j1 (show a < m o 10 by omega)
      rw [if_neg (zne_i (by omega)), zrd_p ⟨by omega, by omega⟩, zrd_p ⟨by omega, by omega⟩]
      by_cases c : m (o + 3) a < m (o + 3) v
      · rw [if_pos (zlt_i (by omega))]
        refine Or.inr ⟨v, v + 1, rfl, by omega, by omega, Or.inr ⟨by omega, by omega, fun u u0 u1 => ?_, fun u u0 u1 => ?_⟩⟩
        · by_cases e : u = v
          · subst e; omega
          · have := j3 u u0 (by omega); omega
        · have := j3 u u0 (by omega); omega
      · rw [if_neg (znlt_i (by omega))]
        refine Or.inr ⟨a, v + 1, rfl, by omega, by omega, Or.inr ⟨by omega, by omega, fun u u0 u1 => ?_, j4⟩⟩
        by_cases e : u = v
        · subst e; omega
        · exact j3 u u0 (by omega)
  · intro f a v ⟨i1, i2, i3⟩
    rw [FX1_longestNode_L4_s]
    unfold FX1_longestNode_L4_B
    rw [if_neg (znlt_i (by omega))]
    refine ⟨a, rfl, ?_⟩
    rcases i3 with ⟨j1, j2⟩ | ⟨j1, j2, j3, j4⟩
    · exact Or.inl ⟨j1, by omega⟩
    · exact Or.inr ⟨j1, by omega, fun u u0 u1 => j3 u u0 (by omega), j4⟩
theorem ofAll6 {m : zM} {lat len lnk ser cor fe dep wid : Int → Int} {N a1 : Int} {g : Int → Int} (h : zLd m lat len lnk ser cor fe dep wid N) (hg : (a1 = 2 ∧ ∀ v, 0 ≤ v → v < N → FX6_stands (fe v + 1 - len v) (len v) 3 m = some (g v)) ∨ (a1 ≠ 2 ∧ zR a1 ∧ ∀ v, 0 ≤ v → v < N → g v = 1 - len v % 2)) : ∃ most, FX6_ofAll a1 m = (if zI a1 = zI 4 then some most else some (zsu g N.toNat)) ∧ (∀ v, 0 ≤ v → v < N → len v ≤ most) ∧ ((most = 0 ∧ N = 0) ∨ ∃ v, 0 ≤ v ∧ v < N ∧ len v = most) := by
  have hN := zci_N h.2.1
  unfold FX6_ofAll
  refine zlo3 (FX6_ofAll_L7 a1 m (fun y7_2 y7_3 _ => if zI a1 = zI 4 then some y7_3 else some y7_2)) (fun r s t v => v + r = N ∧ 0 ≤ v ∧ s = zsu g v.toNat ∧ (∀ u, 0 ≤ u → u < v → len u ≤ t) ∧ ((t = 0 ∧ v = 0) ∨ ∃ u, 0 ≤ u ∧ u < v ∧ len u = t)) (fun z => ∃ most, z = (if zI a1 = zI 4 then some most else some (zsu g N.toNat)) ∧ (∀ v, 0 ≤ v → v < N → len v ≤ most) ∧ ((most = 0 ∧ N = 0) ∨ ∃ v, 0 ≤ v ∧ v < N ∧ len v = most)) ?_ ?_ N.toNat zfu 0 0 0 ⟨by omega, by omega, rfl, fun u u0 u1 => by omega, Or.inl ⟨rfl, rfl⟩⟩ (by show _ < 4000; omega)
  · intro f r s t v ⟨i1, i2, i3, i4, i5⟩
    have hz := zLd_Z h i2 (show v < N by omega)
    obtain ⟨w1, w2⟩ := h.2.2.2 v i2 (by omega)
    have ht : 0 ≤ t ∧ t ≤ 48 := by
      rcases i5 with ⟨q, _⟩ | ⟨u, u0, u1, u2⟩
      · omega
      · have := zLd_Z h u0 (show u < N by omega); omega
    have e : zsu g (v + 1).toNat = s + g v := by
      rw [show (v + 1).toNat = v.toNat + 1 by omega, i3]
      show zsu _ v.toNat + g ((v.toNat : Nat) : Int) = _
      rw [show ((v.toNat : Nat) : Int) = v by omega]
    have key : ∃ t', (zrd m 11 v 48 fun x1 => if zI t < zI x1 then (zrd m 11 v 48 fun x2 => FX6_ofAll_L7 a1 m (fun y7_2 y7_3 _ => if zI a1 = zI 4 then some y7_3 else some y7_2) f (s + g v) x2 (v + 1)) else (FX6_ofAll_L7 a1 m (fun y7_2 y7_3 _ => if zI a1 = zI 4 then some y7_3 else some y7_2) f (s + g v) t (v + 1))) = FX6_ofAll_L7 a1 m (fun y7_2 y7_3 _ => if zI a1 = zI 4 then some y7_3 else some y7_2) f (s + g v) t' (v + 1) ∧ (∀ u, 0 ≤ u → u < v + 1 → len u ≤ t') ∧ ∃ u, 0 ≤ u ∧ u < v + 1 ∧ len u = t' := by
      rw [zrd_p ⟨by omega, by omega⟩, w1]
      by_cases c : t < len v
      · rw [if_pos (zlt_i (by omega)), zrd_p ⟨by omega, by omega⟩, w1]
        refine ⟨_, rfl, fun u u0 u1 => ?_, v, i2, by omega, rfl⟩
        by_cases e : u = v
        · subst e; omega
        · have := i4 u u0 (by omega); omega
      · rw [if_neg (znlt_i (by omega))]
        refine ⟨_, rfl, fun u u0 u1 => ?_, ?_⟩
        · by_cases e : u = v
          · subst e; omega
          · exact i4 u u0 (by omega)
        · rcases i5 with ⟨q, _⟩ | ⟨u, u0, u1, u2⟩
          · omega
          · exact ⟨u, u0, by omega, u2⟩
    obtain ⟨t', k1, k2, k3⟩ := key
    refine Or.inr ⟨s + g v, t', v + 1, ?_, by omega, by omega, e.symm, k2, Or.inr k3⟩
    rw [FX6_ofAll_L7_s]
    unfold FX6_ofAll_L7_B
    rw [h.2.2.1, if_pos (zlt_i (by omega)), zjn_p]
    rcases hg with ⟨g1, g2⟩ | ⟨g1, g2, g3⟩
    · rw [if_pos (by rw [g1]), zrd_p ⟨by omega, by omega⟩, zrd_p ⟨by omega, by omega⟩, w1, w2, zcl_p (g2 v i2 (by omega))]
      exact k1
    · rw [if_neg (zne_i (by omega)), zrd_p (k := fun x4 => zgd (zdg x4 2) _) ⟨by omega, by omega⟩, w1, zgd_p ⟨by omega, by omega, by omega, by omega⟩, ← g3 v i2 (by omega)]
      exact k1
  · intro f s t v ⟨i1, i2, i3, i4, i5⟩
    rw [FX6_ofAll_L7_s]
    unfold FX6_ofAll_L7_B
    rw [h.2.2.1, if_neg (znlt_i (by omega)), i3, show v = N by omega]
    refine ⟨t, rfl, fun u u0 u1 => i4 u u0 (by omega), ?_⟩
    rcases i5 with ⟨q1, q2⟩ | ⟨u, u0, u1, u2⟩
    · exact Or.inl ⟨q1, by omega⟩
    · exact Or.inr ⟨u, u0, by omega, u2⟩
theorem S_count (h : zRel mC mM) : zS_count zRel mC mM := by
  intro a1 h1
  obtain ⟨m1, l1, l2, l3, l4⟩ := lay_t h
  have hN : 0 ≤ mC 1 10 ∧ mC 1 10 ≤ mC 1 9 ∧ mC 1 9 ≤ 48 := zci_N h.t.ct
  have b0 : m1 0 0 = mC 1 9 := l3.t.n
  have b12 := l2.2.2.1
  by_cases c : 0 ≤ a1 ∧ a1 ≤ 7
  · rcases (by omega : a1 = 0 ∨ a1 = 1 ∨ a1 = 2 ∨ a1 = 3 ∨ a1 = 4 ∨ a1 = 5 ∨ a1 = 6 ∨ a1 = 7) with rfl | rfl | rfl | rfl | rfl | rfl | rfl | rfl
    · exact ⟨mC 1 9, m1, by unfold FX5_count; rw [if_pos rfl], by unfold FX6_count; rw [zcl_p l1, if_pos rfl, b0], l3⟩
    · exact ⟨mC 1 10, m1, by unfold FX5_count; rw [if_neg (zi_ne (a := 1) (b := 0) (by omega)), if_pos rfl], by unfold FX6_count; rw [zcl_p l1, if_neg (zi_ne (a := 1) (b := 0) (by omega)), if_pos rfl, b12], l3⟩
    · have q : FX1_allPlaces 1 mC = some (zsu (fun p => mC 9 (mC 3 p)) (mC 1 9).toNat) := allPlaces5 h.t.ct
      obtain ⟨most, o1, o2, o3⟩ := ofAll6 (a1 := 2) (g := fun v => zct (fun p => zs (zx m1) p (mC 8 v + 1 - mC 4 v) (mC 4 v)) (m1 0 0 - mC 4 v + 1).toNat) l2 (Or.inl ⟨rfl, fun v v0 v1 => by
        have hz := zLd_Z l2 v0 v1
        obtain ⟨l', j1, j2, j3, j4, j5⟩ := stands6 l2.1 (i := mC 8 v + 1 - mC 4 v) (k := mC 4 v) (w := 3) (by omega) hz.1 (by omega)
        rw [if_pos rfl] at j1
        exact j1⟩)
      rw [if_neg (zi_ne (a := 2) (b := 4) (by omega)), ← all_ct l2.2.1, b0] at o1
      exact ⟨_, m1, by unfold FX5_count; rw [if_neg (zi_ne (a := 2) (b := 0) (by omega)), if_neg (zi_ne (a := 2) (b := 1) (by omega)), if_pos rfl, zcl_p q], by unfold FX6_count; rw [zcl_p l1, if_neg (zi_ne (a := 2) (b := 0) (by omega)), if_neg (zi_ne (a := 2) (b := 1) (by omega)), if_pos rfl, zcl_p o1], l3⟩
    · have q : FX1_evenNodes 1 mC = some (zsu (fun v => 1 - mC 4 v % 2) (mC 1 10).toNat) := evenNodes5 h.t.ct
      obtain ⟨most, o1, o2, o3⟩ := ofAll6 (a1 := 3) (g := fun v => 1 - mC 4 v % 2) l2 (Or.inr ⟨by omega, by omega, fun v v0 v1 => rfl⟩)
      rw [if_neg (zi_ne (a := 3) (b := 4) (by omega))] at o1
      exact ⟨_, m1, by unfold FX5_count; rw [if_neg (zi_ne (a := 3) (b := 0) (by omega)), if_neg (zi_ne (a := 3) (b := 1) (by omega)), if_neg (zi_ne (a := 3) (b := 2) (by omega)), if_pos rfl, zcl_p q], by unfold FX6_count; rw [zcl_p l1, if_neg (zi_ne (a := 3) (b := 0) (by omega)), if_neg (zi_ne (a := 3) (b := 1) (by omega)), if_neg (zi_ne (a := 3) (b := 2) (by omega)), if_pos rfl, zcl_p o1], l3⟩
    · obtain ⟨r, q, q2⟩ := longest5 h.t.ct
      have q2 : (r = -1 ∧ mC 1 10 = 0) ∨ (0 ≤ r ∧ r < mC 1 10 ∧ (∀ v, 0 ≤ v → v < mC 1 10 → mC 4 v ≤ mC 4 r) ∧ ∀ v, 0 ≤ v → v < r → mC 4 v < mC 4 r) := q2
      obtain ⟨most, o1, o2, o3⟩ := ofAll6 (a1 := 4) (g := fun v => 1 - mC 4 v % 2) l2 (Or.inr ⟨by omega, by omega, fun v v0 v1 => rfl⟩)
      rw [if_pos rfl] at o1
      refine ⟨most, m1, ?_, by unfold FX6_count; rw [zcl_p l1, if_neg (zi_ne (a := 4) (b := 0) (by omega)), if_neg (zi_ne (a := 4) (b := 1) (by omega)), if_neg (zi_ne (a := 4) (b := 2) (by omega)), if_neg (zi_ne (a := 4) (b := 3) (by omega)), if_pos rfl, zcl_p o1], l3⟩
      rcases q2 with ⟨q2, q3⟩ | ⟨q2, q3, q4, q5⟩
      · have e : most = 0 := by
          rcases o3 with ⟨o3, _⟩ | ⟨v, v0, v1, _⟩ <;> omega
        unfold FX5_count; rw [if_neg (zi_ne (a := 4) (b := 0) (by omega)), if_neg (zi_ne (a := 4) (b := 1) (by omega)), if_neg (zi_ne (a := 4) (b := 2) (by omega)), if_neg (zi_ne (a := 4) (b := 3) (by omega)), if_pos rfl, zcl_p q, q2, if_pos rfl, e]
      · have e : mC 4 r = most := by
          have := o2 r q2 q3
          rcases o3 with ⟨o3, _⟩ | ⟨v, v0, v1, v2⟩
          · omega
          · have := q4 v v0 v1; omega
        unfold FX5_count; rw [if_neg (zi_ne (a := 4) (b := 0) (by omega)), if_neg (zi_ne (a := 4) (b := 1) (by omega)), if_neg (zi_ne (a := 4) (b := 2) (by omega)), if_neg (zi_ne (a := 4) (b := 3) (by omega)), if_pos rfl, zcl_p q, if_neg (zne_i (by omega)), zrd_p ⟨by omega, by omega⟩, e]
    · by_cases c5 : mC 1 10 = mC 1 9
      · exact ⟨1, m1, by unfold FX5_count; rw [if_neg (zi_ne (a := 5) (b := 0) (by omega)), if_neg (zi_ne (a := 5) (b := 1) (by omega)), if_neg (zi_ne (a := 5) (b := 2) (by omega)), if_neg (zi_ne (a := 5) (b := 3) (by omega)), if_neg (zi_ne (a := 5) (b := 4) (by omega)), if_pos rfl, if_pos (by rw [c5])], by unfold FX6_count; rw [zcl_p l1, if_neg (zi_ne (a := 5) (b := 0) (by omega)), if_neg (zi_ne (a := 5) (b := 1) (by omega)), if_neg (zi_ne (a := 5) (b := 2) (by omega)), if_neg (zi_ne (a := 5) (b := 3) (by omega)), if_neg (zi_ne (a := 5) (b := 4) (by omega)), if_pos rfl, if_pos (by rw [b0, b12, c5])], l3⟩
      · exact ⟨0, m1, by unfold FX5_count; rw [if_neg (zi_ne (a := 5) (b := 0) (by omega)), if_neg (zi_ne (a := 5) (b := 1) (by omega)), if_neg (zi_ne (a := 5) (b := 2) (by omega)), if_neg (zi_ne (a := 5) (b := 3) (by omega)), if_neg (zi_ne (a := 5) (b := 4) (by omega)), if_pos rfl, if_neg (zne_i (by omega))], by unfold FX6_count; rw [zcl_p l1, if_neg (zi_ne (a := 5) (b := 0) (by omega)), if_neg (zi_ne (a := 5) (b := 1) (by omega)), if_neg (zi_ne (a := 5) (b := 2) (by omega)), if_neg (zi_ne (a := 5) (b := 3) (by omega)), if_neg (zi_ne (a := 5) (b := 4) (by omega)), if_pos rfl, b0, b12, if_neg (zne_i (by omega))], l3⟩
    · exact ⟨mC 21 3, m1, by unfold FX5_count; rw [if_neg (zi_ne (a := 6) (b := 0) (by omega)), if_neg (zi_ne (a := 6) (b := 1) (by omega)), if_neg (zi_ne (a := 6) (b := 2) (by omega)), if_neg (zi_ne (a := 6) (b := 3) (by omega)), if_neg (zi_ne (a := 6) (b := 4) (by omega)), if_neg (zi_ne (a := 6) (b := 5) (by omega)), if_pos rfl], by unfold FX6_count; rw [zcl_p l1, if_neg (zi_ne (a := 6) (b := 0) (by omega)), if_neg (zi_ne (a := 6) (b := 1) (by omega)), if_neg (zi_ne (a := 6) (b := 2) (by omega)), if_neg (zi_ne (a := 6) (b := 3) (by omega)), if_neg (zi_ne (a := 6) (b := 4) (by omega)), if_neg (zi_ne (a := 6) (b := 5) (by omega)), if_pos rfl, l3.ac.1], l3⟩
    · exact ⟨mC 33 1, m1, by unfold FX5_count; rw [if_neg (zi_ne (a := 7) (b := 0) (by omega)), if_neg (zi_ne (a := 7) (b := 1) (by omega)), if_neg (zi_ne (a := 7) (b := 2) (by omega)), if_neg (zi_ne (a := 7) (b := 3) (by omega)), if_neg (zi_ne (a := 7) (b := 4) (by omega)), if_neg (zi_ne (a := 7) (b := 5) (by omega)), if_neg (zi_ne (a := 7) (b := 6) (by omega)), if_pos rfl], by unfold FX6_count; rw [zcl_p l1, if_neg (zi_ne (a := 7) (b := 0) (by omega)), if_neg (zi_ne (a := 7) (b := 1) (by omega)), if_neg (zi_ne (a := 7) (b := 2) (by omega)), if_neg (zi_ne (a := 7) (b := 3) (by omega)), if_neg (zi_ne (a := 7) (b := 4) (by omega)), if_neg (zi_ne (a := 7) (b := 5) (by omega)), if_neg (zi_ne (a := 7) (b := 6) (by omega)), if_pos rfl, l3.tp.1], l3⟩
  · have e : ∀ k : Int, 0 ≤ k → k ≤ 7 → ¬ zI a1 = zI k := fun k k0 k1 => zne_i (by omega)
    refine ⟨-1, m1, ?_, ?_, l3⟩
    · unfold FX5_count; rw [if_neg (e 0 (by omega) (by omega)), if_neg (e 1 (by omega) (by omega)), if_neg (e 2 (by omega) (by omega)), if_neg (e 3 (by omega) (by omega)), if_neg (e 4 (by omega) (by omega)), if_neg (e 5 (by omega) (by omega)), if_neg (e 6 (by omega) (by omega)), if_neg (e 7 (by omega) (by omega))]
    · unfold FX6_count; rw [zcl_p l1, if_neg (e 0 (by omega) (by omega)), if_neg (e 1 (by omega) (by omega)), if_neg (e 2 (by omega) (by omega)), if_neg (e 3 (by omega) (by omega)), if_neg (e 4 (by omega) (by omega)), if_neg (e 5 (by omega) (by omega)), if_neg (e 6 (by omega) (by omega)), if_neg (e 7 (by omega) (by omega))]
end CN
