/-! palindromes of a row of letters: pure words -/
def zp (x : Int → Int) (i k : Int) : Prop := ∀ d, 0 ≤ d → d < k → x (i + d) = x (i + k - 1 - d)
def zs (x : Int → Int) (i j k : Int) : Prop := ∀ d, 0 ≤ d → d < k → x (i + d) = x (j + d)
/-- the longest palindrome shorter than b that ends at p (0: none) -/
def zLb (x : Int → Int) (p b k : Int) : Prop := 0 ≤ k ∧ k < b ∧ k ≤ p + 1 ∧ zp x (p + 1 - k) k ∧ ∀ j, k < j → j < b → j ≤ p + 1 → ¬ zp x (p + 1 - j) j
def zL (x : Int → Int) (p k : Int) : Prop := 1 ≤ k ∧ k ≤ p + 1 ∧ zp x (p + 1 - k) k ∧ ∀ j, k < j → j ≤ p + 1 → ¬ zp x (p + 1 - j) j
/-- the row of k letters that ends at p stands nowhere ahead -/
def zN (x : Int → Int) (p k : Int) : Prop := ∀ i, 0 ≤ i → i < p + 1 - k → ¬ zs x i (p + 1 - k) k
section SP
variable {x y : Int → Int} {i j k p b n : Int}
theorem zs_rf : zs x i i k := fun _ _ _ => rfl
theorem zs_sy (h : zs x i j k) : zs x j i k := fun d h1 h2 => (h d h1 h2).symm
theorem zs_tr {l : Int} (h : zs x i j k) (h' : zs x j l k) : zs x i l k := fun d h1 h2 => (h d h1 h2).trans (h' d h1 h2)
theorem zs_sub {i' j' b : Int} (h : zs x i j k) (e : i' - i = j' - j) (h1 : i ≤ i') (h2 : i' + b ≤ i + k) : zs x i' j' b := fun d d1 d2 =>
  (congrArg x (by omega : i' + d = i + (i' - i + d))).trans ((h (i' - i + d) (by omega) (by omega)).trans (congrArg x (by omega)))
theorem zp_s (h : zs x i j k) (hp : zp x i k) : zp x j k := fun d h1 h2 =>
  (h d h1 h2).symm.trans ((hp d h1 h2).trans ((congrArg x (by omega : i + k - 1 - d = i + (k - 1 - d))).trans ((h (k - 1 - d) (by omega) (by omega)).trans (congrArg x (by omega)))))
theorem zp_in (h : zp x i k) : zp x (i + 1) (k - 2) := fun d h1 h2 =>
  (congrArg x (by omega : i + 1 + d = i + (d + 1))).trans ((h (d + 1) (by omega) (by omega)).trans (congrArg x (by omega)))
theorem zp_ends (h : zp x i k) (hk : 1 ≤ k) : x i = x (i + k - 1) :=
  (congrArg x (by omega : i = i + 0)).trans ((h 0 (by omega) (by omega)).trans (congrArg x (by omega)))
theorem zp_wr (h : zp x (i + 1) (k - 2)) (he : x i = x (i + k - 1)) : zp x i k := fun d h1 h2 => by
  by_cases h0 : d = 0
  · subst h0
    exact (congrArg x (by omega)).trans (he.trans (congrArg x (by omega)))
  · by_cases h3 : d = k - 1
    · subst h3
      exact (congrArg x (by omega)).trans (he.symm.trans (congrArg x (by omega)))
    · exact (congrArg x (by omega : i + d = i + 1 + (d - 1))).trans ((h (d - 1) (by omega) (by omega)).trans (congrArg x (by omega)))
theorem zp_pre (h : zp x i k) (hs : zp x (i + k - j) j) (hj : j ≤ k) : zs x i (i + k - j) j := fun d h1 h2 =>
  (h d h1 (by omega)).trans ((congrArg x (by omega : i + k - 1 - d = i + k - j + (j - 1 - d))).trans ((hs (j - 1 - d) (by omega) (by omega)).trans (congrArg x (by omega))))
theorem zp_0 (h : k ≤ 0) : zp x i k := fun d h1 h2 => by omega
theorem zp_1 (h : k ≤ 1) : zp x i k := fun d h1 h2 => congrArg x (by omega)
theorem zp_to {i' k' : Int} (h : zp x i k) (h1 : i' = i) (h2 : k' = k) : zp x i' k' := by subst h1; subst h2; exact h
theorem zs_to {i' j' k' : Int} (h : zs x i j k) (h1 : i' = i) (h2 : j' = j) (h3 : k' = k) : zs x i' j' k' := by subst h1; subst h2; subst h3; exact h
/-- a row that is the same where it is looked at -/
theorem zp_cg (h : ∀ q, i ≤ q → q < i + k → x q = y q) (hp : zp x i k) : zp y i k := fun d h1 h2 =>
  (h _ (by omega) (by omega)).symm.trans ((hp d h1 h2).trans (h _ (by omega) (by omega)))
theorem zs_cg (h1 : ∀ q, i ≤ q → q < i + k → x q = y q) (h2 : ∀ q, j ≤ q → q < j + k → x q = y q) (hp : zs x i j k) : zs y i j k := fun d d1 d2 =>
  (h1 _ (by omega) (by omega)).symm.trans ((hp d d1 d2).trans (h2 _ (by omega) (by omega)))
theorem zLb_u {k' : Int} (h : zLb x p b k) (h' : zLb x p b k') : k = k' := by
  obtain ⟨a1, a2, a3, a4, a5⟩ := h
  obtain ⟨b1, b2, b3, b4, b5⟩ := h'
  by_cases c : k < k'
  · exact absurd b4 (a5 k' c b2 b3)
  · by_cases c2 : k' < k
    · exact absurd a4 (b5 k c2 a2 a3)
    · omega
theorem zL_u {k' : Int} (h : zL x p k) (h' : zL x p k') : k = k' := by
  obtain ⟨a1, a2, a3, a4⟩ := h
  obtain ⟨b1, b2, b3, b4⟩ := h'
  by_cases c : k < k'
  · exact absurd b3 (a4 k' c b2)
  · by_cases c2 : k' < k
    · exact absurd a3 (b4 k c2 a2)
    · omega
theorem zL_b (h : zLb x p b k) (hb : p + 1 < b) (hk : 1 ≤ k) : zL x p k := ⟨hk, h.2.2.1, h.2.2.2.1, fun j h1 h2 => h.2.2.2.2 j h1 (by omega) h2⟩
theorem zb_L (h : zL x p k) (hb : k < b) : zLb x p b k := ⟨by have := h.1; omega, hb, h.2.1, h.2.2.1, fun j h1 _ h3 => h.2.2.2 j h1 h3⟩
theorem zLb_pos (h : zLb x p b k) (hp : 0 ≤ p) (hb : 2 ≤ b) : 1 ≤ k := by
  by_cases c : 1 ≤ k
  · exact c
  · exact absurd (zp_1 (by omega)) (h.2.2.2.2 1 (by omega) (by omega) (by omega))
theorem zLb_cg (h : ∀ q, 0 ≤ q → q ≤ p → x q = y q) (hl : zLb x p b k) : zLb y p b k :=
  ⟨hl.1, hl.2.1, hl.2.2.1, zp_cg (fun q h1 h2 => h q (by have := hl.2.2.1; omega) (by omega)) hl.2.2.2.1, fun j h1 h2 h3 hj => hl.2.2.2.2 j h1 h2 h3 (zp_cg (fun q h4 h5 => (h q (by omega) (by omega)).symm) hj)⟩
theorem zL_cg (h : ∀ q, 0 ≤ q → q ≤ p → x q = y q) (hl : zL x p k) : zL y p k :=
  ⟨hl.1, hl.2.1, zp_cg (fun q h1 h2 => h q (by have := hl.2.1; omega) (by omega)) hl.2.2.1, fun j h1 h3 hj => hl.2.2.2 j h1 h3 (zp_cg (fun q h4 h5 => (h q (by omega) (by omega)).symm) hj)⟩
theorem zN_cg (h : ∀ q, 0 ≤ q → q ≤ p → x q = y q) (hk : k ≤ p + 1) (hk0 : 0 ≤ k) (hl : zN x p k) : zN y p k := fun i h1 h2 hs => hl i h1 h2 (zs_cg (fun q h4 h5 => (h q (by omega) (by omega)).symm) (fun q h4 h5 => (h q (by omega) (by omega)).symm) hs)
/-- a longest palindrome always is there -/
theorem zLb_ex (x : Int → Int) (p : Int) (hp : 0 ≤ p + 1) : ∀ (c : Nat) (b : Int), b = c + 1 → ∃ k, zLb x p b k := by
  intro c
  induction c with
  | zero => exact fun b hb => ⟨0, by omega, by omega, hp, zp_0 (by omega), fun j h1 h2 => by omega⟩
  | succ c ih =>
    intro b hb
    by_cases h : (b - 1 ≤ p + 1 ∧ zp x (p + 1 - (b - 1)) (b - 1))
    · exact ⟨b - 1, by omega, by omega, h.1, h.2, fun j h1 h2 => by omega⟩
    · obtain ⟨k, k1, k2, k3, k4, k5⟩ := ih (b - 1) (by omega)
      refine ⟨k, k1, by omega, k3, k4, fun j h1 h2 h3 h4 => ?_⟩
      by_cases c : j < b - 1
      · exact k5 j h1 c h3 h4
      · have : j = b - 1 := by omega
        subst this
        exact h ⟨h3, h4⟩
theorem zL_ex (x : Int → Int) (p : Int) (hp : 0 ≤ p) : ∃ k, zL x p k := by
  obtain ⟨k, hk⟩ := zLb_ex x p (by omega) (p + 1).toNat (p + 2) (by omega)
  exact ⟨k, zL_b hk (by omega) (zLb_pos hk hp (by omega))⟩
/-- what stands nowhere ahead is the longest -/
theorem zN_L (hk : 1 ≤ k) (hk2 : k ≤ p + 1) (hp : zp x (p + 1 - k) k) (hn : zN x p k) : zL x p k :=
  ⟨hk, hk2, hp, fun j h1 h2 h3 => hn (p + 1 - j) (by omega) (by omega) (zs_to (zp_pre h3 (zp_to hp (by omega) rfl) (by omega)) rfl (by omega) rfl)⟩
end SP
/-- the list of nodes: N of them, their first ends E, their lengths Z -/
def zNd (x : Int → Int) (n N : Int) (E Z : Int → Int) : Prop := 0 ≤ N ∧ (∀ v, 0 ≤ v → v < N → 0 ≤ E v ∧ E v < n ∧ zL x (E v) (Z v) ∧ zN x (E v) (Z v)) ∧ (∀ v w, 0 ≤ v → v < w → w < N → E v < E w) ∧ ∀ p, 0 ≤ p → p < n → ∀ k, zL x p k → zN x p k → ∃ v, 0 ≤ v ∧ v < N ∧ E v = p
section ND
variable {x y : Int → Int} {n N : Int} {E Z : Int → Int}
theorem zNd_Z (h : zNd x n N E Z) {v : Int} (h0 : 0 ≤ v) (h1 : v < N) : 1 ≤ Z v ∧ Z v ≤ E v + 1 ∧ 0 ≤ E v ∧ E v < n := by
  obtain ⟨a, b, c, d⟩ := h.2.1 v h0 h1
  exact ⟨c.1, c.2.1, a, b⟩
theorem zNd_le (h : zNd x n N E Z) : ∀ (c : Nat) (v : Int), v = c → v < N → v ≤ E v := by
  intro c
  induction c with
  | zero => intro v hv h1; have := (zNd_Z h (v := v) (by omega) h1).2.2.1; omega
  | succ c ih =>
    intro v hv h1
    have h2 := ih (v - 1) (by omega) (by omega)
    have h3 := h.2.2.1 (v - 1) v (by omega) (by omega) h1
    omega
theorem zNd_N (h : zNd x n N E Z) (hn : 0 ≤ n) : N ≤ n := by
  by_cases c : N ≤ 0
  · omega
  · have h1 := zNd_le h (N - 1).toNat (N - 1) (by omega) (by omega)
    have h2 := (zNd_Z h (v := N - 1) (by omega) (by omega)).2.2.2
    omega
/-- every palindrome that stands is a node -/
theorem zNd_ex (h : zNd x n N E Z) : ∀ (c : Nat) (i k : Int), i = c → 1 ≤ k → i + k ≤ n → zp x i k → ∃ v, 0 ≤ v ∧ v < N ∧ Z v = k ∧ zs x (E v + 1 - Z v) i k ∧ E v + 1 ≤ i + k := by
  intro c
  induction c using Nat.strongRecOn with
  | _ c ih =>
    intro i k hi hk hn hp
    by_cases hh : ∃ i', 0 ≤ i' ∧ i' < i ∧ zs x i' i k
    · obtain ⟨i', a1, a2, a3⟩ := hh
      obtain ⟨v, b1, b2, b3, b4, b5⟩ := ih i'.toNat (by omega) i' k (by omega) hk (by omega) (zp_s (zs_sy a3) hp)
      exact ⟨v, b1, b2, b3, zs_tr b4 a3, by omega⟩
    · have hN : zN x (i + k - 1) k := fun i' a1 a2 a3 => hh ⟨i', a1, by omega, zs_to a3 rfl (by omega) rfl⟩
      have hL := zN_L hk (by omega) (zp_to hp (by omega) rfl) hN
      obtain ⟨v, b1, b2, b3⟩ := h.2.2.2 (i + k - 1) (by omega) (by omega) k hL hN
      have hZ : Z v = k := by
        have := (h.2.1 v b1 b2).2.2.1
        rw [b3] at this
        exact zL_u this hL
      exact ⟨v, b1, b2, hZ, zs_to zs_rf (by omega) rfl rfl, by omega⟩
/-- no two nodes are the same row -/
theorem zNd_u (h : zNd x n N E Z) {v w : Int} (v0 : 0 ≤ v) (v1 : v < N) (w0 : 0 ≤ w) (w1 : w < N) (hz : Z v = Z w) (hs : zs x (E v + 1 - Z v) (E w + 1 - Z w) (Z v)) : v = w := by
  obtain ⟨a1, a2, a3, a4⟩ := h.2.1 v v0 v1
  obtain ⟨b1, b2, b3, b4⟩ := h.2.1 w w0 w1
  have e : E v = E w := by
    by_cases c : E v < E w
    · exact absurd (zs_to hs rfl rfl hz.symm) (b4 (E v + 1 - Z v) (by have := a3.2.1; omega) (by omega))
    · by_cases c2 : E w < E v
      · exact absurd (zs_sy hs) (a4 (E w + 1 - Z w) (by have := b3.2.1; omega) (by omega))
      · omega
  by_cases c : v < w
  · have := h.2.2.1 v w v0 c w1; omega
  · by_cases c2 : w < v
    · have := h.2.2.1 w v w0 c2 v1; omega
    · omega
end ND
