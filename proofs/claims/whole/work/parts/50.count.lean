/-! sums and counts -/
noncomputable def zin (P : Prop) : Int := @ite Int P (Classical.propDecidable P) 1 0
theorem zin_1 {P : Prop} (h : P) : zin P = 1 := by unfold zin; exact if_pos h
theorem zin_0 {P : Prop} (h : ¬ P) : zin P = 0 := by unfold zin; exact if_neg h
theorem zin_b (P : Prop) : 0 ≤ zin P ∧ zin P ≤ 1 := by
  by_cases h : P
  · rw [zin_1 h]; omega
  · rw [zin_0 h]; omega
theorem zin_cg {P Q : Prop} (h : P ↔ Q) : zin P = zin Q := by
  by_cases c : P
  · rw [zin_1 c, zin_1 (h.mp c)]
  · rw [zin_0 c, zin_0 (fun q => c (h.mpr q))]
def zsu (f : Int → Int) : Nat → Int
  | 0 => 0
  | n + 1 => zsu f n + f n
noncomputable def zct (P : Int → Prop) (n : Nat) : Int := zsu (fun i => zin (P i)) n
theorem zct_s (P : Int → Prop) (n : Nat) : zct P (n + 1) = zct P n + zin (P n) := rfl
theorem zsu_cg {f g : Int → Int} : ∀ n : Nat, (∀ i : Int, 0 ≤ i → i < n → f i = g i) → zsu f n = zsu g n := by
  intro n
  induction n with
  | zero => intro _; rfl
  | succ n ih =>
    intro h
    show zsu f n + f n = zsu g n + g n
    rw [ih (fun i i0 i1 => h i i0 (by omega)), h n (by omega) (by omega)]
theorem zct_cg {P Q : Int → Prop} (n : Nat) (h : ∀ i : Int, 0 ≤ i → i < n → (P i ↔ Q i)) : zct P n = zct Q n := zsu_cg n (fun i i0 i1 => zin_cg (h i i0 i1))
theorem zsu_add (f g : Int → Int) : ∀ n : Nat, zsu (fun i => f i + g i) n = zsu f n + zsu g n := by
  intro n
  induction n with
  | zero => rfl
  | succ n ih =>
    show zsu (fun i => f i + g i) n + (f n + g n) = zsu f n + f n + (zsu g n + g n)
    rw [ih]; omega
theorem zsu_z : ∀ n : Nat, zsu (fun _ => 0) n = 0 := by
  intro n
  induction n with
  | zero => rfl
  | succ n ih => show zsu (fun _ => 0) n + 0 = 0; omega
theorem zsu_swap (f : Int → Int → Int) (b : Nat) : ∀ a : Nat, zsu (fun i => zsu (fun j => f i j) b) a = zsu (fun j => zsu (fun i => f i j) a) b := by
  intro a
  induction a with
  | zero => exact (zsu_z b).symm
  | succ a ih =>
    show zsu (fun i => zsu (fun j => f i j) b) a + zsu (fun j => f a j) b = zsu (fun j => zsu (fun i => f i j) a + f a j) b
    rw [ih, ← zsu_add]
theorem zct_out {P : Int → Prop} {a : Nat} : ∀ b : Nat, (∀ i : Int, a ≤ i → i < a + b → ¬ P i) → zct P (a + b) = zct P a := by
  intro b
  induction b with
  | zero => intro _; rfl
  | succ b ih =>
    intro h
    show zct P (a + b) + zin (P ((a + b : Nat) : Int)) = zct P a
    rw [ih (fun i i0 i1 => h i i0 (by omega)), zin_0 (h _ (by omega) (by omega))]; omega
theorem zct_b (P : Int → Prop) : ∀ n : Nat, 0 ≤ zct P n ∧ zct P n ≤ n := by
  intro n
  induction n with
  | zero => exact ⟨Int.le_refl 0, Int.le_refl 0⟩
  | succ n ih =>
    rw [zct_s]
    have := zin_b (P n)
    omega
theorem zct_rm {Q : Int → Prop} {j0 : Int} (h0 : 0 ≤ j0) (hq : Q j0) : ∀ b : Nat, j0 < b → zct Q b = zct (fun j => Q j ∧ j ≠ j0) b + 1 := by
  intro b
  induction b with
  | zero => intro h; omega
  | succ b ih =>
    intro h
    rw [zct_s, zct_s]
    by_cases e : j0 = b
    · rw [zin_1 (by rw [← e]; exact hq), zin_0 (by rw [← e]; exact fun q => q.2 rfl), zct_cg b (Q := fun j => Q j ∧ j ≠ j0) (fun i i0 i1 => ⟨fun q => ⟨q, by omega⟩, fun q => q.1⟩)]
      omega
    · rw [ih (by omega), zin_cg (P := Q b) (Q := Q b ∧ (b : Int) ≠ j0) ⟨fun q => ⟨q, fun w => e w.symm⟩, fun q => q.1⟩]
      omega
theorem zct_inj (R : Int → Int → Prop) (b : Nat) : ∀ (a : Nat) (P Q : Int → Prop), (∀ i : Int, 0 ≤ i → i < a → P i → ∃ j : Int, 0 ≤ j ∧ j < b ∧ Q j ∧ R i j) → (∀ i i' j : Int, 0 ≤ i → i < a → 0 ≤ i' → i' < a → 0 ≤ j → j < b → R i j → R i' j → i = i') → zct P a ≤ zct Q b := by
  intro a
  induction a with
  | zero => intro P Q _ _; exact (zct_b Q b).1
  | succ a ih =>
    intro P Q h1 h2
    rw [zct_s]
    by_cases c : P a
    · obtain ⟨j, j0, j1, j2, j3⟩ := h1 a (by omega) (by omega) c
      have := ih P (fun k => Q k ∧ k ≠ j) (fun i i0 i1 hi => by
        obtain ⟨k, k0, k1, k2, k3⟩ := h1 i i0 (by omega) hi
        refine ⟨k, k0, k1, ⟨k2, fun e => ?_⟩, k3⟩
        subst e
        have := h2 i a k i0 (by omega) (by omega) (by omega) k0 k1 k3 j3
        omega) (fun i i' k i0 i1 i2 i3 => h2 i i' k i0 (by omega) i2 (by omega))
      rw [zin_1 c, zct_rm j0 j2 b j1]
      omega
    · have := ih P Q (fun i i0 i1 => h1 i i0 (by omega)) (fun i i' k i0 i1 i2 i3 => h2 i i' k i0 (by omega) i2 (by omega))
      rw [zin_0 c]
      omega
theorem zct_bij (R : Int → Int → Prop) {a b : Nat} {P Q : Int → Prop} (h1 : ∀ i : Int, 0 ≤ i → i < a → P i → ∃ j : Int, 0 ≤ j ∧ j < b ∧ Q j ∧ R i j) (h2 : ∀ j : Int, 0 ≤ j → j < b → Q j → ∃ i : Int, 0 ≤ i ∧ i < a ∧ P i ∧ R i j) (h3 : ∀ i i' j : Int, 0 ≤ i → i < a → 0 ≤ i' → i' < a → 0 ≤ j → j < b → R i j → R i' j → i = i') (h4 : ∀ i j j' : Int, 0 ≤ j → j < b → 0 ≤ j' → j' < b → 0 ≤ i → i < a → R i j → R i j' → j = j') : zct P a = zct Q b := by
  have q1 := zct_inj R b a P Q h1 h3
  have q2 := zct_inj (fun j i => R i j) a b Q P h2 (fun j j' i a1 a2 a3 a4 a5 a6 => h4 i j j' a1 a2 a3 a4 a5 a6)
  omega
/-- how many nodes there are: as many as there are places at which a new one ends -/
theorem zNd_ct {x : Int → Int} {n N : Int} {E Z : Int → Int} (h : zNd x n N E Z) (hn : 0 ≤ n) : N = zct (fun p => ∃ k, zL x p k ∧ zN x p k) n.toNat := by
  have hN := zNd_N h hn
  have h0 := h.1
  have q : zct (fun _ => True) N.toNat = zct (fun p => ∃ k, zL x p k ∧ zN x p k) n.toNat := zct_bij (fun v p => E v = p) (fun i i0 i1 _ => by
      obtain ⟨a, b, c, d⟩ := h.2.1 i i0 (by omega)
      exact ⟨E i, a, by omega, ⟨Z i, c, d⟩, rfl⟩) (fun p p0 p1 ⟨k, k1, k2⟩ => by
      obtain ⟨v, v0, v1, v2⟩ := h.2.2.2 p p0 (by omega) k k1 k2
      exact ⟨v, v0, by omega, True.intro, v2⟩) (fun i i' j i0 i1 i2 i3 j0 j1 e1 e2 => by
      by_cases c : i < i'
      · have := h.2.2.1 i i' i0 c (by omega); omega
      · by_cases c2 : i' < i
        · have := h.2.2.1 i' i i2 c2 (by omega); omega
        · omega) (fun i j j' _ _ _ _ _ _ e1 e2 => e1.symm.trans e2)
  have q2 : ∀ c : Nat, zct (fun _ => True) c = c := by
    intro c
    induction c with
    | zero => rfl
    | succ c ih => rw [zct_s, ih, zin_1 True.intro]; omega
  rw [q2] at q
  omega
