/-! the reference's own questions, on its text -/
def zx (m : zM) : Int → Int := fun i => 97 + m 1 i
/-- the text of the reference: 0 to 48 letters -/
def zTm (m : zM) : Prop := 0 ≤ m 0 0 ∧ m 0 0 ≤ 48 ∧ ∀ i, 0 ≤ i → i < m 0 0 → 0 ≤ m 1 i ∧ m 1 i ≤ 5
section WL
variable {α : Type}
/-- a loop that goes on while all is well -/
theorem wl_all (L : Nat → Int → Int → Option α) (K : Int → Int → Option α) (C : Int → Prop) (lo hi : Int)
    (h0 : ∀ f d, lo ≤ d → d < hi → (C d → L (f + 1) 1 d = L f 1 (d + 1)) ∧ (¬ C d → L (f + 1) 1 d = L f 0 (d + 1)))
    (h1 : ∀ f is, L (f + 1) is hi = K is hi) (h2 : ∀ f d, lo ≤ d → d < hi → L (f + 1) 0 d = K 0 d) :
    ∀ (r f : Nat) (d : Int), lo ≤ d → d + r = hi → r + 2 ≤ f → (∃ d', L f 1 d = K 1 d' ∧ ∀ e, d ≤ e → e < hi → C e) ∨ (∃ d', L f 1 d = K 0 d' ∧ ∃ e, d ≤ e ∧ e < hi ∧ ¬ C e) := by
  intro r
  induction r with
  | zero =>
    intro f d hd hr hf
    obtain ⟨f, rfl⟩ : ∃ g, f = g + 1 := ⟨f - 1, by omega⟩
    have e : d = hi := by omega
    subst e
    exact Or.inl ⟨d, h1 f 1, fun e e1 e2 => by omega⟩
  | succ r ih =>
    intro f d hd hr hf
    obtain ⟨f, rfl⟩ : ∃ g, f = g + 1 := ⟨f - 1, by omega⟩
    obtain ⟨a, b⟩ := h0 f d hd (by omega)
    by_cases c : C d
    · rw [a c]
      rcases ih f (d + 1) (by omega) (by omega) (by omega) with ⟨d', q1, q2⟩ | ⟨d', q1, e, q2, q3, q4⟩
      · refine Or.inl ⟨d', q1, fun e e1 e2 => ?_⟩
        by_cases ee : e = d
        · subst ee; exact c
        · exact q2 e (by omega) e2
      · exact Or.inr ⟨d', q1, e, by omega, q3, q4⟩
    · rw [b c]
      obtain ⟨f, rfl⟩ : ∃ g, f = g + 1 := ⟨f - 1, by omega⟩
      by_cases c2 : d + 1 < hi
      · exact Or.inr ⟨d + 1, h2 f (d + 1) (by omega) c2, d, by omega, by omega, c⟩
      · have e : d + 1 = hi := by omega
        exact Or.inr ⟨hi, by rw [e]; exact h1 f 0, d, by omega, by omega, c⟩
end WL
/-- a yes or no, told as 1 or 0 -/
def zyn (r : Int) (P : Prop) : Prop := (r = 1 ∧ P) ∨ (r = 0 ∧ ¬ P)
theorem zyn_b {r : Int} {P : Prop} (h : zyn r P) : r = 0 ∨ r = 1 := by rcases h with ⟨a, _⟩ | ⟨a, _⟩ <;> omega
theorem zyn_0 {r : Int} {P : Prop} (h : zyn r P) (hp : ¬ P) : zI r = zI 0 := by
  rcases h with ⟨_, b⟩ | ⟨a, _⟩
  · exact absurd b hp
  · rw [a]
theorem zyn_1 {r : Int} {P : Prop} (h : zyn r P) (hp : P) : ¬ zI r = zI 0 := by
  rcases h with ⟨a, _⟩ | ⟨_, b⟩
  · rw [a]; exact zne_i (by omega)
  · exact absurd hp b
theorem zyn_if {α : Type} {r : Int} {P : Prop} (h : zyn r P) (a b : α) : (P → (if zI r = zI 0 then a else b) = b) ∧ (¬ P → (if zI r = zI 0 then a else b) = a) :=
  ⟨fun p => if_neg (zyn_1 h p), fun p => if_pos (zyn_0 h p)⟩
theorem zI_ne10 : ¬ zI 1 = zI 0 := zne_i (by omega)
section MB
variable {m : zM}
theorem isMirror_spec (h : zTm m) {i k : Int} (hi : 0 ≤ i) (hk : 0 ≤ k) (hn : i + k ≤ m 0 0) : ∃ r, FX6_isMirror i k m = some r ∧ zyn r (zp (zx m) i k) := by
  obtain ⟨n0, n1, n2⟩ := h
  have hw := wl_all (FX6_isMirror_L5 i k m (fun y5_3 y5_4 => zgd (y5_3 = 0 ∨ y5_3 = 1) <| some y5_3)) (fun y5_3 y5_4 => zgd (y5_3 = 0 ∨ y5_3 = 1) <| some y5_3) (fun d => zx m (i + d) = zx m (i + k - 1 - d)) 0 (k / 2)
    (fun f d d0 d1 => by
      have a1 := n2 (i + d) (by omega) (by omega)
      have a2 := n2 (i + k - 1 - d) (by omega) (by omega)
      constructor
      · intro c
        rw [FX6_isMirror_L5_s]
        unfold FX6_isMirror_L5_B
        rw [zgd_p ⟨hk, by omega, by omega, by omega⟩, if_pos (zlt_i (by omega)), if_neg zI_ne10, zrd_p ⟨by omega, by omega⟩, zrd_p ⟨by omega, by omega⟩, if_pos (by unfold zx at c; exact congrArg zI (by omega))]
      · intro c
        rw [FX6_isMirror_L5_s]
        unfold FX6_isMirror_L5_B
        rw [zgd_p ⟨hk, by omega, by omega, by omega⟩, if_pos (zlt_i (by omega)), if_neg zI_ne10, zrd_p ⟨by omega, by omega⟩, zrd_p ⟨by omega, by omega⟩, if_neg (zne_i ⟨by omega, by omega, by omega, by omega, fun q => c (by unfold zx; omega)⟩)])
    (fun f is => by
      rw [FX6_isMirror_L5_s]
      unfold FX6_isMirror_L5_B
      rw [zgd_p ⟨hk, by omega, by omega, by omega⟩, if_neg (znlt_i (by omega))])
    (fun f d d0 d1 => by
      rw [FX6_isMirror_L5_s]
      unfold FX6_isMirror_L5_B
      rw [zgd_p ⟨hk, by omega, by omega, by omega⟩, if_pos (zlt_i (by omega)), if_pos rfl])
    (k / 2).toNat zfu 0 (by omega) (by omega) (by show _ ≤ 4000; omega)
  rcases hw with ⟨d', q1, q2⟩ | ⟨d', q1, e, q2, q3, q4⟩
  · refine ⟨1, by unfold FX6_isMirror; rw [q1, zgd_p (by omega)], Or.inl ⟨rfl, fun d d0 d1 => ?_⟩⟩
    by_cases c : d < k / 2
    · exact q2 d d0 c
    · by_cases c2 : k - 1 - d < k / 2
      · exact (congrArg (zx m) (by omega)).trans ((q2 (k - 1 - d) (by omega) c2).symm.trans (congrArg (zx m) (by omega)))
      · exact congrArg (zx m) (by omega)
  · exact ⟨0, by unfold FX6_isMirror; rw [q1, zgd_p (by omega)], Or.inr ⟨rfl, fun hp => q4 (hp e q2 (by omega))⟩⟩
end MB
