/-! one letter more, one letter less: pure -/
section C2
variable {x lat len lnk ser cor fe dep wid : Int → Int} {n N : Int}
theorem zuf_e (f : Int → Int) (i v : Int) : zuf f i v i = v := if_pos rfl
theorem zuf_d (f : Int → Int) {i j : Int} (v : Int) (h : j ≠ i) : zuf f i v j = f j := if_neg h
/-- the first place of a node is its least -/
theorem zNd_first (h : zNd x n N fe len) {v i : Int} (v0 : 0 ≤ v) (v1 : v < N) (hi : 0 ≤ i) (hs : zs x (fe v + 1 - len v) i (len v)) : fe v + 1 - len v ≤ i := by
  by_cases c : fe v + 1 - len v ≤ i
  · exact c
  · exact absurd (zs_sy hs) ((h.2.1 v v0 v1).2.2.2 i hi (by omega))
theorem zci_old (h : zci x lat len lnk ser cor fe dep wid n N) (hn : n < 48) (hx : 97 ≤ x n ∧ x n ≤ 102) {v : Int} (v0 : 0 ≤ v) (v1 : v < N) (hL : zL x n (len v)) (hs : zs x (fe v + 1 - len v) (n + 1 - len v) (len v)) : zci x (zuf lat n v) len lnk ser cor fe dep wid (n + 1) N := by
  obtain ⟨h1, h2, h3, h4, h5, h6, h7, h8, h9, h10, h11⟩ := h
  obtain ⟨g1, g2, g3, g4⟩ := zNd_Z h3 v0 v1
  refine ⟨by omega, fun i i0 i1 => ?_, ⟨h3.1, fun w w0 w1 => ?_, h3.2.2.1, fun p p0 p1 k hk hk2 => ?_⟩, h4, fun p p0 p1 => ?_, h6, h7, h8, h9, h10, h11⟩
  · by_cases e : i = n
    · subst e; exact hx
    · exact h2 i i0 (by omega)
  · obtain ⟨a, b, c, d⟩ := h3.2.1 w w0 w1
    exact ⟨a, by omega, c, d⟩
  · by_cases e : p = n
    · subst e
      have : k = len v := zL_u hk hL
      subst this
      exact absurd hs (hk2 _ (by omega) (by omega))
    · exact h3.2.2.2 p p0 (by omega) k hk hk2
  · by_cases e : p = n
    · subst e
      rw [zuf_e]
      exact ⟨v0, v1, hL, hs, by omega⟩
    · rw [zuf_d _ _ e]
      exact h5 p p0 (by omega)
theorem zci_new (h : zci x lat len lnk ser cor fe dep wid n N) (hn : n < 48) (hx : 97 ≤ x n ∧ x n ≤ 102) {u sh s : Int} (hu : zsf x len fe n N u) (hL : zL x n (len u + 2)) (hN : zN x n (len u + 2)) (hw : wid (u * 6 + (x n - 97)) = -1)
    (hsh : (u = 49 ∧ sh = 48) ∨ (u ≠ 49 ∧ 0 ≤ sh ∧ sh < N ∧ zLb x n (len u + 2) (len sh) ∧ zs x (fe sh + 1 - len sh) (n + 1 - len sh) (len sh)))
    (hs : s = if len u + 2 - len sh = len sh - len (lnk sh) then ser sh else sh) :
    zci x (zuf lat n N) (zuf len N (len u + 2)) (zuf lnk N sh) (zuf ser N s) (zuf cor N u) (zuf fe N n) (zuf dep N (dep sh + 1)) (zuf wid (u * 6 + (x n - 97)) N) (n + 1) (N + 1) := by
  have hNn := zci_N h
  have hub := zsf_b h hu
  obtain ⟨h1, h2, h3, h4, h5, h6, h7, h8, h9, h10, h11⟩ := h
  obtain ⟨r1, r2, r3, r4, r5, r6, r7⟩ := h4
  have shN : sh ≠ N ∧ 0 ≤ sh ∧ sh < 50 := by
    rcases hsh with ⟨a, b⟩ | ⟨a, b, c, d⟩ <;> omega
  have lshN : lnk sh ≠ N := by
    rcases hsh with ⟨a, b⟩ | ⟨a, b, c, d⟩
    · rw [b, r3]; omega
    · rcases h6 sh b c with ⟨_, e⟩ | ⟨_, e, e2, _⟩ <;> omega
  have lnkN : ∀ v, 0 ≤ v → v < N → lnk v ≠ N ∧ lnk (lnk v) ≠ N := fun v v0 v1 => by
    rcases h6 v v0 v1 with ⟨_, e⟩ | ⟨_, e, e2, _⟩
    · rw [e, r3]; omega
    · refine ⟨by omega, ?_⟩
      rcases h6 _ e e2 with ⟨_, e⟩ | ⟨_, e, e2, _⟩ <;> omega
  refine ⟨by omega, fun i i0 i1 => ?_, ⟨by omega, fun w w0 w1 => ?_, fun v w v0 vw w1 => ?_, fun p p0 p1 k hk hk2 => ?_⟩, ⟨?_, ?_, ?_, ?_, ?_, ?_, ?_⟩, fun p p0 p1 => ?_, fun v v0 v1 => ?_, fun v v0 v1 => ?_, fun v v0 v1 => ?_, fun v v0 v1 => ?_, fun v v0 v1 => ?_, fun y c y0 y1 c0 c1 => ?_⟩
  · by_cases e : i = n
    · subst e; exact hx
    · exact h2 i i0 (by omega)
  · by_cases e : w = N
    · subst e
      rw [zuf_e, zuf_e]
      exact ⟨by omega, by omega, hL, hN⟩
    · rw [zuf_d _ _ e, zuf_d _ _ e]
      obtain ⟨a, b, c, d⟩ := h3.2.1 w w0 (by omega)
      exact ⟨a, by omega, c, d⟩
  · rw [zuf_d fe _ (by omega : v ≠ N)]
    by_cases e : w = N
    · subst e
      rw [zuf_e]
      exact (zNd_Z h3 v0 (by omega)).2.2.2
    · rw [zuf_d _ _ e]
      exact h3.2.2.1 v w v0 vw (by omega)
  · by_cases e : p = n
    · subst e
      exact ⟨N, by omega, by omega, zuf_e _ _ _⟩
    · obtain ⟨v, a, b, c⟩ := h3.2.2.2 p p0 (by omega) k hk hk2
      exact ⟨v, a, by omega, by rw [zuf_d _ _ (by omega : v ≠ N)]; exact c⟩
  · rw [zuf_d _ _ (by omega)]; exact r1
  · rw [zuf_d _ _ (by omega)]; exact r2
  · rw [zuf_d _ _ (by omega)]; exact r3
  · rw [zuf_d _ _ (by omega)]; exact r4
  · rw [zuf_d _ _ (by omega)]; exact r5
  · rw [zuf_d _ _ (by omega)]; exact r6
  · rw [zuf_d _ _ (by omega)]; exact r7
  · by_cases e : p = n
    · subst e
      rw [zuf_e, zuf_e, zuf_e]
      exact ⟨by omega, by omega, hL, zs_rf, by omega⟩
    · rw [zuf_d lat _ e]
      obtain ⟨a, b, c, d, f⟩ := h5 p p0 (by omega)
      rw [zuf_d len _ (by omega), zuf_d fe _ (by omega)]
      exact ⟨a, by omega, c, d, f⟩
  · by_cases e : v = N
    · subst e
      rw [zuf_e, zuf_e, zuf_e]
      rcases hsh with ⟨a, b⟩ | ⟨a, b, c, d, f⟩
      · exact Or.inl ⟨by rw [a, r2]; omega, b⟩
      · have hl2 : 0 ≤ len u := by
          rcases hu with q | q | ⟨q1, q2, _⟩
          · exact absurd q a
          · rw [q, r1]; omega
          · have := zNd_Z h3 q1 q2; omega
        rw [zuf_d len _ (by omega), zuf_d fe _ (by omega)]
        exact Or.inr ⟨by omega, b, by omega, d, f⟩
    · rw [zuf_d len _ e, zuf_d lnk _ e, zuf_d fe _ e]
      have := (lnkN v v0 (by omega)).1
      rw [zuf_d len _ this, zuf_d fe _ this]
      rcases h6 v v0 (by omega) with a | ⟨a, b, c, d⟩
      · exact Or.inl a
      · exact Or.inr ⟨a, b, by omega, d⟩
  · by_cases e : v = N
    · subst e
      rw [zuf_e, zuf_e, zuf_e]
      rcases hu with q | q | ⟨q1, q2, q3, q4⟩
      · exact Or.inl ⟨by rw [q, r2]; omega, q⟩
      · exact Or.inr (Or.inl ⟨by rw [q, r1]; omega, q⟩)
      · have := zNd_Z h3 q1 q2
        rw [zuf_d len _ (by omega), zuf_d fe _ (by omega)]
        exact Or.inr (Or.inr ⟨by omega, q1, by omega, by omega, zs_to q4 rfl (by omega) (by omega)⟩)
    · rw [zuf_d len _ e, zuf_d cor _ e, zuf_d fe _ e]
      rcases h7 v v0 (by omega) with a | a | ⟨a, b, c, d⟩
      · exact Or.inl a
      · exact Or.inr (Or.inl a)
      · rw [zuf_d len _ (by omega), zuf_d fe _ (by omega)]
        exact Or.inr (Or.inr ⟨a, b, by omega, d⟩)
  · by_cases e : v = N
    · subst e
      rw [zuf_e, zuf_e, zuf_d dep _ shN.1]
    · rw [zuf_d dep _ e, zuf_d lnk _ e, zuf_d dep _ (lnkN v v0 (by omega)).1]
      exact h8 v v0 (by omega)
  · by_cases e : v = N
    · subst e
      rw [zuf_e, zuf_e, zuf_e, zuf_d lnk _ shN.1, zuf_d len _ shN.1, zuf_d ser _ shN.1, zuf_d len _ lshN]
      exact hs
    · rw [zuf_d ser _ e, zuf_d lnk _ e, zuf_d len _ e, zuf_d lnk _ (lnkN v v0 (by omega)).1, zuf_d len _ (lnkN v v0 (by omega)).1, zuf_d ser _ (lnkN v v0 (by omega)).1, zuf_d len _ (lnkN v v0 (by omega)).2]
      exact h9 v v0 (by omega)
  · by_cases e : v = N
    · subst e
      rw [zuf_e cor, zuf_e fe, zuf_e]
    · rw [zuf_d cor _ e, zuf_d fe _ e]
      have h12 := h10 v v0 (by omega)
      rw [zuf_d wid _ (fun q => by rw [q] at h12; omega)]
      exact h12
  · by_cases e : y * 6 + c = u * 6 + (x n - 97)
    · have e2 : y = u ∧ c = x n - 97 := by omega
      rw [e, zuf_e, zuf_e, zuf_e]
      exact Or.inr ⟨by omega, by omega, e2.1.symm, by omega⟩
    · rw [zuf_d wid _ e]
      rcases h11 y c y0 y1 c0 c1 with a | ⟨a, b, d, f⟩
      · exact Or.inl a
      · rw [zuf_d cor _ (by omega), zuf_d fe _ (by omega)]
        exact Or.inr ⟨a, by omega, d, f⟩
/-- the last letter goes: no node began with it -/
theorem zci_popA (h : zci x lat len lnk ser cor fe dep wid (n + 1) N) (hn : 0 ≤ n) (hf : fe (lat n) ≠ n) : zci x lat len lnk ser cor fe dep wid n N := by
  obtain ⟨h1, h2, h3, h4, h5, h6, h7, h8, h9, h10, h11⟩ := h
  obtain ⟨a1, a2, a3, a4, a5⟩ := h5 n hn (by omega)
  have hlt : ∀ w, 0 ≤ w → w < N → fe w < n := fun w w0 w1 => by
    obtain ⟨b1, b2, b3, b4⟩ := h3.2.1 w w0 w1
    by_cases e : fe w = n
    · rw [e] at b3
      have hz : len (lat n) = len w := zL_u a3 b3
      have := zNd_u h3 a1 a2 w0 w1 hz (zs_to a4 rfl (by omega) rfl)
      rw [this] at hf
      exact absurd e hf
    · omega
  refine ⟨by omega, fun i i0 i1 => h2 i i0 (by omega), ⟨h3.1, fun w w0 w1 => ?_, h3.2.2.1, fun p p0 p1 => h3.2.2.2 p p0 (by omega)⟩, h4, fun p p0 p1 => h5 p p0 (by omega), h6, h7, h8, h9, h10, h11⟩
  obtain ⟨b1, b2, b3, b4⟩ := h3.2.1 w w0 w1
  exact ⟨b1, hlt w w0 w1, b3, b4⟩
theorem zci_popB (h : zci x lat len lnk ser cor fe dep wid (n + 1) N) (hn : 0 ≤ n) (hf : fe (lat n) = n) : zci x lat len lnk ser cor fe dep (zuf wid (cor (lat n) * 6 + (x n - 97)) (-1)) n (N - 1) ∧ lat n = N - 1 ∧ 0 ≤ cor (lat n) ∧ cor (lat n) < 50 := by
  have hNn := zci_N h
  obtain ⟨h1, h2, h3, h4, h5, h6, h7, h8, h9, h10, h11⟩ := h
  obtain ⟨a1, a2, a3, a4, a5⟩ := h5 n hn (by omega)
  have hv : lat n = N - 1 := by
    by_cases e : lat n = N - 1
    · exact e
    · have := h3.2.2.1 (lat n) (N - 1) a1 (by omega) (by omega)
      have := (zNd_Z h3 (v := N - 1) (by omega) (by omega)).2.2.2
      omega
  have hlt : ∀ w, 0 ≤ w → w < N - 1 → fe w < n := fun w w0 w1 => by
    have := h3.2.2.1 w (N - 1) w0 (by omega) (by omega)
    rw [← hv] at this
    omega
  have hne : ∀ w, 0 ≤ w → w < N → fe w < n → w < N - 1 := fun w w0 w1 hw => by
    by_cases e : w = N - 1
    · rw [e, ← hv] at hw; omega
    · omega
  have hcb : 0 ≤ cor (lat n) ∧ cor (lat n) < 50 := by
    rcases h7 _ a1 a2 with ⟨_, e⟩ | ⟨_, e⟩ | ⟨_, e, e2, _⟩ <;> omega
  refine ⟨⟨by omega, fun i i0 i1 => h2 i i0 (by omega), ⟨by omega, fun w w0 w1 => ?_, fun v w v0 vw w1 => h3.2.2.1 v w v0 vw (by omega), fun p p0 p1 k hk hk2 => ?_⟩, h4, fun p p0 p1 => ?_, fun v v0 v1 => ?_, fun v v0 v1 => ?_, fun v v0 v1 => h8 v v0 (by omega), fun v v0 v1 => h9 v v0 (by omega), fun v v0 v1 => ?_, fun y c y0 y1 c0 c1 => ?_⟩, hv, hcb⟩
  · obtain ⟨b1, b2, b3, b4⟩ := h3.2.1 w w0 (by omega)
    exact ⟨b1, hlt w w0 w1, b3, b4⟩
  · obtain ⟨v, v0, v1, ve⟩ := h3.2.2.2 p p0 (by omega) k hk hk2
    exact ⟨v, v0, hne v v0 v1 (by omega), ve⟩
  · obtain ⟨b1, b2, b3, b4, b5⟩ := h5 p p0 (by omega)
    exact ⟨b1, hne _ b1 b2 (by omega), b3, b4, b5⟩
  · rcases h6 v v0 (by omega) with b | ⟨b1, b2, b3, b4, b5⟩
    · exact Or.inl b
    · have hv2 := hlt v v0 v1
      have hz := zNd_Z h3 v0 (by omega)
      have hb4 := b4.2.1
      have := zNd_first h3 b2 b3 (by omega) b5
      exact Or.inr ⟨b1, b2, hne _ b2 b3 (by omega), b4, b5⟩
  · rcases h7 v v0 (by omega) with b | b | ⟨b1, b2, b3, b4, b5⟩
    · exact Or.inl b
    · exact Or.inr (Or.inl b)
    · have hv2 := hlt v v0 v1
      have hz := zNd_Z h3 v0 (by omega)
      have := zNd_first h3 b2 b3 (by omega) (zs_to b5 rfl rfl b4)
      exact Or.inr (Or.inr ⟨b1, b2, hne _ b2 b3 (by omega), b4, b5⟩)
  · have h12 := h10 v v0 (by omega)
    have h13 := h10 (lat n) a1 a2
    rw [hf] at h13
    rw [zuf_d wid _ (fun q => by rw [q, h13] at h12; omega)]
    exact h12
  · by_cases e : y * 6 + c = cor (lat n) * 6 + (x n - 97)
    · rw [e, zuf_e]
      exact Or.inl rfl
    · rw [zuf_d wid _ e]
      rcases h11 y c y0 y1 c0 c1 with b | ⟨b1, b2, b3, b4⟩
      · exact Or.inl b
      · refine Or.inr ⟨b1, ?_, b3, b4⟩
        by_cases e2 : wid (y * 6 + c) = N - 1
        · exfalso
          rw [e2, ← hv] at b3 b4
          rw [hf] at b4
          apply e
          rw [b3]
          omega
        · omega
end C2
