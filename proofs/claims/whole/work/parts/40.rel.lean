/-! loops, yes-and-no questions, the relation between the two memories -/
section LP
variable {α : Type}
theorem zlo {σ : Type} (L : Nat → σ → Option α) (I : Nat → σ → Prop) (R : Option α → Prop) (hs : ∀ f r v, I (r + 1) v → R (L (f + 1) v) ∨ ∃ v', L (f + 1) v = L f v' ∧ I r v') (he : ∀ f v, I 0 v → R (L (f + 1) v)) : ∀ (r f : Nat) (v : σ), I r v → r < f → R (L f v) := by
  intro r
  induction r with
  | zero => intro f v h hf; obtain ⟨f, rfl⟩ : ∃ g, f = g + 1 := ⟨f - 1, by omega⟩; exact he f v h
  | succ r ih =>
    intro f v h hf
    obtain ⟨f, rfl⟩ : ∃ g, f = g + 1 := ⟨f - 1, by omega⟩
    rcases hs f r v h with q | ⟨v', q1, q2⟩
    · exact q
    · rw [q1]; exact ih f v' q2 (by omega)
theorem zlo1 (L : Nat → Int → Option α) (I : Nat → Int → Prop) (R : Option α → Prop) (hs : ∀ f r v, I (r + 1) v → R (L (f + 1) v) ∨ ∃ v', L (f + 1) v = L f v' ∧ I r v') (he : ∀ f v, I 0 v → R (L (f + 1) v)) : ∀ (r f : Nat) (v : Int), I r v → r < f → R (L f v) := zlo L I R hs he
theorem zlo2 (L : Nat → Int → Int → Option α) (I : Nat → Int → Int → Prop) (R : Option α → Prop) (hs : ∀ f r u v, I (r + 1) u v → R (L (f + 1) u v) ∨ ∃ u' v', L (f + 1) u v = L f u' v' ∧ I r u' v') (he : ∀ f u v, I 0 u v → R (L (f + 1) u v)) : ∀ (r f : Nat) (u v : Int), I r u v → r < f → R (L f u v) :=
  fun r f u v h hf => zlo (σ := Int × Int) (fun f s => L f s.1 s.2) (fun r s => I r s.1 s.2) R (fun f r s h => (hs f r s.1 s.2 h).imp id (fun ⟨u', v', q⟩ => ⟨(u', v'), q⟩)) (fun f s h => he f s.1 s.2 h) r f (u, v) h hf
theorem zlo3 (L : Nat → Int → Int → Int → Option α) (I : Nat → Int → Int → Int → Prop) (R : Option α → Prop) (hs : ∀ f r u v w, I (r + 1) u v w → R (L (f + 1) u v w) ∨ ∃ u' v' w', L (f + 1) u v w = L f u' v' w' ∧ I r u' v' w') (he : ∀ f u v w, I 0 u v w → R (L (f + 1) u v w)) : ∀ (r f : Nat) (u v w : Int), I r u v w → r < f → R (L f u v w) :=
  fun r f u v w h hf => zlo (σ := Int × Int × Int) (fun f s => L f s.1 s.2.1 s.2.2) (fun r s => I r s.1 s.2.1 s.2.2) R (fun f r s h => (hs f r s.1 s.2.1 s.2.2 h).imp id (fun ⟨u', v', w', q⟩ => ⟨(u', v', w'), q⟩)) (fun f s h => he f s.1 s.2.1 s.2.2 h) r f (u, v, w) h hf
theorem zlom (L : Nat → Int → zM → Option α) (I : Nat → Int → zM → Prop) (R : Option α → Prop) (hs : ∀ f r u m, I (r + 1) u m → R (L (f + 1) u m) ∨ ∃ u' m', L (f + 1) u m = L f u' m' ∧ I r u' m') (he : ∀ f u m, I 0 u m → R (L (f + 1) u m)) : ∀ (r f : Nat) (u : Int) (m : zM), I r u m → r < f → R (L f u m) :=
  fun r f u m h hf => zlo (σ := Int × zM) (fun f s => L f s.1 s.2) (fun r s => I r s.1 s.2) R (fun f r s h => (hs f r s.1 s.2 h).imp id (fun ⟨u', v', q⟩ => ⟨(u', v'), q⟩)) (fun f s h => he f s.1 s.2 h) r f (u, m) h hf
theorem zlom2 (L : Nat → Int → Int → zM → Option α) (I : Nat → Int → Int → zM → Prop) (R : Option α → Prop) (hs : ∀ f r u v m, I (r + 1) u v m → R (L (f + 1) u v m) ∨ ∃ u' v' m', L (f + 1) u v m = L f u' v' m' ∧ I r u' v' m') (he : ∀ f u v m, I 0 u v m → R (L (f + 1) u v m)) : ∀ (r f : Nat) (u v : Int) (m : zM), I r u v m → r < f → R (L f u v m) :=
  fun r f u v m h hf => zlo (σ := Int × Int × zM) (fun f s => L f s.1 s.2.1 s.2.2) (fun r s => I r s.1 s.2.1 s.2.2) R (fun f r s h => (hs f r s.1 s.2.1 s.2.2 h).imp id (fun ⟨u', v', w', q⟩ => ⟨(u', v', w'), q⟩)) (fun f s h => he f s.1 s.2.1 s.2.2 h) r f (u, v, m) h hf
theorem zlom3 (L : Nat → Int → Int → Int → zM → Option α) (I : Nat → Int → Int → Int → zM → Prop) (R : Option α → Prop) (hs : ∀ f r u v w m, I (r + 1) u v w m → R (L (f + 1) u v w m) ∨ ∃ u' v' w' m', L (f + 1) u v w m = L f u' v' w' m' ∧ I r u' v' w' m') (he : ∀ f u v w m, I 0 u v w m → R (L (f + 1) u v w m)) : ∀ (r f : Nat) (u v w : Int) (m : zM), I r u v w m → r < f → R (L f u v w m) :=
  fun r f u v w m h hf => zlo (σ := Int × Int × Int × zM) (fun f s => L f s.1 s.2.1 s.2.2.1 s.2.2.2) (fun r s => I r s.1 s.2.1 s.2.2.1 s.2.2.2) R (fun f r s h => (hs f r s.1 s.2.1 s.2.2.1 s.2.2.2 h).imp id (fun ⟨u', v', w', m', q⟩ => ⟨(u', v', w', m'), q⟩)) (fun f s h => he f s.1 s.2.1 s.2.2.1 s.2.2.2 h) r f (u, v, w, m) h hf
end LP
theorem zJ_lt {a b : Int} (ha : zRl a) (hb : zRl b) : (zJ a < zJ b) = (a < b) := by
  rw [Int64.lt_iff_toInt_lt, zJ_toInt ha.1 ha.2, zJ_toInt hb.1 hb.2]
theorem zJ_eq {a b : Int} (ha : zRl a) (hb : zRl b) : (zJ a = zJ b) = (a = b) := by
  apply propext
  rw [← Int64.toInt_inj, zJ_toInt ha.1 ha.2, zJ_toInt hb.1 hb.2]
theorem zlt_j {a b : Int} (h : -9223372036854775808 ≤ a ∧ b < 9223372036854775808 ∧ a < b) : zJ a < zJ b := by
  rw [zJ_lt ⟨h.1, by omega⟩ ⟨by omega, h.2.1⟩]; exact h.2.2
theorem znlt_j {a b : Int} (h : -9223372036854775808 ≤ b ∧ a < 9223372036854775808 ∧ b ≤ a) : ¬ zJ a < zJ b := by
  rw [zJ_lt ⟨by omega, h.2.1⟩ ⟨h.1, by omega⟩]; omega
theorem zne_j {a b : Int} (h : -9223372036854775808 ≤ a ∧ a < 9223372036854775808 ∧ -9223372036854775808 ≤ b ∧ b < 9223372036854775808 ∧ a ≠ b) : ¬ zJ a = zJ b := by
  rw [zJ_eq ⟨h.1, h.2.1⟩ ⟨h.2.2.1, h.2.2.2.1⟩]; exact h.2.2.2.2
theorem w5 {a lo hi : Int} (h : zR a ∧ zR lo ∧ zR hi) : ∃ r, FX5_within a lo hi = some r ∧ zyn r (lo ≤ a ∧ a ≤ hi) := by
  obtain ⟨ha, hl, hh⟩ := h
  unfold FX5_within
  by_cases c1 : a < lo
  · rw [if_pos (zlt_i (by omega))]; exact ⟨0, rfl, Or.inr ⟨rfl, by omega⟩⟩
  · rw [if_neg (znlt_i (by omega))]
    by_cases c2 : hi < a
    · rw [if_pos (zlt_i (by omega))]; exact ⟨0, rfl, Or.inr ⟨rfl, by omega⟩⟩
    · rw [if_neg (znlt_i (by omega))]; exact ⟨1, rfl, Or.inl ⟨rfl, by omega⟩⟩
theorem w6l {a lo hi : Int} (h : zRl a ∧ zRl lo ∧ zRl hi) : ∃ r, FX6_within a lo hi = some r ∧ zyn r (lo ≤ a ∧ a ≤ hi) := by
  obtain ⟨ha, hl, hh⟩ := h
  unfold FX6_within
  by_cases c1 : a < lo
  · rw [if_pos (zlt_j (by omega))]; exact ⟨0, rfl, Or.inr ⟨rfl, by omega⟩⟩
  · rw [if_neg (znlt_j (by omega))]
    by_cases c2 : hi < a
    · rw [if_pos (zlt_j (by omega))]; exact ⟨0, rfl, Or.inr ⟨rfl, by omega⟩⟩
    · rw [if_neg (znlt_j (by omega))]; exact ⟨1, rfl, Or.inl ⟨rfl, by omega⟩⟩
theorem w6 {a lo hi : Int} (h : zR a ∧ zR lo ∧ zR hi) : ∃ r, FX6_within a lo hi = some r ∧ zyn r (lo ≤ a ∧ a ≤ hi) := by
  obtain ⟨ha, hl, hh⟩ := h
  exact w6l ⟨⟨by omega, by omega⟩, ⟨by omega, by omega⟩, ⟨by omega, by omega⟩⟩
theorem let5 {a : Int} (h : zR a) : ∃ r, FX5_isLetter a = some r ∧ zyn r (97 ≤ a ∧ a ≤ 102) := by
  obtain ⟨r, h1, h2⟩ := w5 (a := a) (lo := 97) (hi := 102) ⟨h, by omega, by omega⟩
  exact ⟨r, by unfold FX5_isLetter; rw [zcl_p h1, zgd_p (zyn_b h2)], h2⟩
theorem let6 {a : Int} (h : zR a) : ∃ r, FX6_isLetter a = some r ∧ zyn r (97 ≤ a ∧ a ≤ 102) := by
  obtain ⟨r, h1, h2⟩ := w6 (a := a) (lo := 97) (hi := 102) ⟨h, by omega, by omega⟩
  exact ⟨r, by unfold FX6_isLetter; rw [zgd_p h, zcl_p h1, zgd_p (zyn_b h2)], h2⟩
theorem she5 {a : Int} (h : zR a) : ∃ r, FX5_isSheet a = some r ∧ zyn r (0 ≤ a ∧ a ≤ 3) := by
  obtain ⟨r, h1, h2⟩ := w5 (a := a) (lo := 0) (hi := 3) ⟨h, by omega, by omega⟩
  exact ⟨r, by unfold FX5_isSheet; rw [zcl_p h1, zgd_p (zyn_b h2)], h2⟩
theorem lan5 {a : Int} (h : zR a) : ∃ r, FX5_isLane a = some r ∧ zyn r (0 ≤ a ∧ a ≤ 3) := by
  obtain ⟨r, h1, h2⟩ := w5 (a := a) (lo := 0) (hi := 3) ⟨h, by omega, by omega⟩
  exact ⟨r, by unfold FX5_isLane; rw [zcl_p h1, zgd_p (zyn_b h2)], h2⟩
theorem she6 {a : Int} (h : zR a) : ∃ r, FX6_isSheet a = some r ∧ zyn r (0 ≤ a ∧ a ≤ 3) := by
  obtain ⟨r, h1, h2⟩ := w6 (a := a) (lo := 0) (hi := 3) ⟨h, by omega, by omega⟩
  exact ⟨r, by unfold FX6_isSheet; rw [zgd_p h, zcl_p h1, zgd_p (zyn_b h2)], h2⟩
theorem pla5 {a : Int} {m : zM} (h : zR a) (hn : 0 ≤ m 1 9 ∧ m 1 9 ≤ 48) : ∃ r, FX5_isPlace a m = some r ∧ zyn r (0 ≤ a ∧ a < m 1 9) := by
  obtain ⟨r, h1, h2⟩ := w5 (a := a) (lo := 0) (hi := m 1 9 - 1) ⟨h, by omega, by omega⟩
  refine ⟨r, by unfold FX5_isPlace; rw [zcl_p h1, zgd_p (zyn_b h2)], ?_⟩
  rcases h2 with ⟨q1, q2⟩ | ⟨q1, q2⟩
  · exact Or.inl ⟨q1, by omega⟩
  · exact Or.inr ⟨q1, by omega⟩
theorem nod5 {a : Int} {m : zM} (h : zR a) (hn : 0 ≤ m 1 10 ∧ m 1 10 ≤ 48) : ∃ r, FX5_isNode a m = some r ∧ zyn r (0 ≤ a ∧ a < m 1 10) := by
  obtain ⟨r, h1, h2⟩ := w5 (a := a) (lo := 0) (hi := m 1 10 - 1) ⟨h, by omega, by omega⟩
  refine ⟨r, by unfold FX5_isNode; rw [zcl_p h1, zgd_p (zyn_b h2)], ?_⟩
  rcases h2 with ⟨q1, q2⟩ | ⟨q1, q2⟩
  · exact Or.inl ⟨q1, by omega⟩
  · exact Or.inr ⟨q1, by omega⟩
theorem wi6 {a n : Int} (h : zR a) (hn : 0 ≤ n ∧ n ≤ 48) : ∃ r, FX6_within a 0 (n - 1) = some r ∧ zyn r (0 ≤ a ∧ a < n) := by
  obtain ⟨r, h1, h2⟩ := w6 (a := a) (lo := 0) (hi := n - 1) ⟨h, by omega, by omega⟩
  refine ⟨r, h1, ?_⟩
  rcases h2 with ⟨q1, q2⟩ | ⟨q1, q2⟩
  · exact Or.inl ⟨q1, by omega⟩
  · exact Or.inr ⟨q1, by omega⟩
/-- one act: from so many letters to so many -/
def zst (k p l c n n' : Int) : Prop := (k = 0 ∧ c = 0 ∧ n' = n + 1) ∨ (k = 1 ∧ c = l - 96 ∧ (97 ≤ l ∧ l ≤ 102) ∧ n = n' + 1) ∨ (k = 2 ∧ c = 100 + 10 * p + (l - 97) ∧ (97 ≤ l ∧ l ≤ 102) ∧ (0 ≤ p ∧ p < n) ∧ n' = n)
def zH (K P L C : Int → Int) : Nat → Int → Prop
  | 0, _ => True
  | a + 1, n' => ∃ n, (0 ≤ n ∧ n ≤ 48) ∧ zst (K a) (P a) (L a) (C a) n n' ∧ zH K P L C a n
theorem zH_cg {K P L C K' P' L' C' : Int → Int} : ∀ (a : Nat) (n : Int), (∀ i : Int, 0 ≤ i → i < a → K' i = K i ∧ P' i = P i ∧ L' i = L i ∧ C' i = C i) → zH K P L C a n → zH K' P' L' C' a n := by
  intro a
  induction a with
  | zero => intro n _ _; exact True.intro
  | succ a ih =>
    intro n h h2
    obtain ⟨n0, h3, h4, h5⟩ := h2
    obtain ⟨e1, e2, e3, e4⟩ := h a (by omega) (by omega)
    exact ⟨n0, h3, by rw [e1, e2, e3, e4]; exact h4, ih n0 (fun i i0 i1 => h i i0 (by omega)) h5⟩
theorem zH_sh {K P L C : Int → Int} : ∀ (a : Nat) (n : Int), zH K P L C (a + 1) n → zH (fun i => K (i + 1)) (fun i => P (i + 1)) (fun i => L (i + 1)) (fun i => C (i + 1)) a n := by
  intro a
  induction a with
  | zero => intro n _; exact True.intro
  | succ a ih =>
    intro n h2
    obtain ⟨n0, h3, h4, h5⟩ := h2
    exact ⟨n0, h3, h4, ih n0 h5⟩
def zTx (mC mM : zM) : Prop := zCI mC 1 ∧ mM 0 0 = mC 1 9 ∧ ∀ i, 0 ≤ i → i < mC 1 9 → mC 2 i = 97 + mM 1 i
theorem zTx.ct {mC mM : zM} (h : zTx mC mM) : zCI mC 1 := h.1
theorem zTx.n {mC mM : zM} (h : zTx mC mM) : mM 0 0 = mC 1 9 := h.2.1
theorem zTx.x {mC mM : zM} (h : zTx mC mM) : ∀ i, 0 ≤ i → i < mC 1 9 → mC 2 i = 97 + mM 1 i := h.2.2
def zAc (mC mM : zM) (n : Int) : Prop := mM 0 2 = mC 21 3 ∧ (0 ≤ mC 21 3 ∧ mC 21 3 ≤ 24) ∧ zH (mC 22) (mC 23) (mC 24) (mM 2) (mC 21 3).toNat n
def zIg (mC mM : zM) : Prop := ∀ k : Int, 0 ≤ k → k < 2 → mC (29 + 2 * k.toNat) 1 = mM 4 k ∧ (-1 ≤ mM 4 k ∧ mM 4 k ≤ 48) ∧ ∀ i, 0 ≤ i → i < mM 4 k → mC (29 + 2 * k.toNat + 1) i = 97 + mM 3 (48 * k + i) ∧ 0 ≤ mM 3 (48 * k + i) ∧ mM 3 (48 * k + i) ≤ 5
def zTp (mC mM : zM) : Prop := mC 33 1 = mM 0 6 ∧ (0 ≤ mM 0 6 ∧ mM 0 6 ≤ 48) ∧ ∀ i, 0 ≤ i → i < mM 0 6 → mC 34 i = mM 5 i ∧ 0 ≤ mM 5 i ∧ mM 5 i ≤ 255
def zSs (mC mM : zM) : Prop := ∀ s : Int, 0 ≤ s → s < 4 → (mC (36 + 2 * s.toNat) 2 = -1 ∧ mM 6 s = -1) ∨ (mC (36 + 2 * s.toNat) 1 = mM 6 s ∧ (0 ≤ mM 6 s ∧ mM 6 s ≤ 3) ∧ mC (36 + 2 * s.toNat) 2 = mM 7 s ∧ (0 ≤ mM 7 s ∧ mM 7 s ≤ 48) ∧ ∀ i, 0 ≤ i → i < 48 → mC (36 + 2 * s.toNat + 1) i = mM 8 (48 * s + i) ∧ zRl (mM 8 (48 * s + i)))
def zRel (mC mM : zM) : Prop := zTx mC mM ∧ zCI mC 11 ∧ zAc mC mM (mC 1 9) ∧ zIg mC mM ∧ zTp mC mM ∧ zSs mC mM
theorem zRel.t {mC mM : zM} (h : zRel mC mM) : zTx mC mM := h.1
theorem zRel.cr {mC mM : zM} (h : zRel mC mM) : zCI mC 11 := h.2.1
theorem zRel.ac {mC mM : zM} (h : zRel mC mM) : zAc mC mM (mC 1 9) := h.2.2.1
theorem zRel.ig {mC mM : zM} (h : zRel mC mM) : zIg mC mM := h.2.2.2.1
theorem zRel.tp {mC mM : zM} (h : zRel mC mM) : zTp mC mM := h.2.2.2.2.1
theorem zRel.ss {mC mM : zM} (h : zRel mC mM) : zSs mC mM := h.2.2.2.2.2
theorem zCI_cg {m m' : zM} {o : Nat} (h : zCI m o) (e : ∀ k : Nat, k ≤ 9 → m' (o + k) = m (o + k)) : zCI m' o := by
  unfold zCI
  rw [show m' o = m o from e 0 (by omega), e 1 (by omega), e 2 (by omega), e 3 (by omega), e 4 (by omega), e 5 (by omega), e 6 (by omega), e 7 (by omega), e 8 (by omega), e 9 (by omega)]
  exact h
theorem zTx_cg {mC mM mC' mM' : zM} (h : zTx mC mM) (e : ∀ c : Nat, 1 ≤ c → c ≤ 10 → mC' c = mC c) (e2 : mM' 0 0 = mM 0 0) (e3 : ∀ i, 0 ≤ i → i < mM 0 0 → mM' 1 i = mM 1 i) : zTx mC' mM' := by
  obtain ⟨h1, h2, h3⟩ := h
  refine ⟨zCI_cg h1 (fun k hk => e _ (by omega) (by omega)), ?_, fun i i0 i1 => ?_⟩
  · rw [e2, e 1 (by omega) (by omega)]; exact h2
  · rw [e 1 (by omega) (by omega)] at i1
    rw [e 2 (by omega) (by omega), e3 i i0 (by omega)]
    exact h3 i i0 i1
theorem zAc_cg {mC mM mC' mM' : zM} {n : Int} (h : zAc mC mM n) (e : ∀ c : Nat, 21 ≤ c → c ≤ 24 → mC' c = mC c) (e2 : mM' 0 2 = mM 0 2) (e3 : mM' 2 = mM 2) : zAc mC' mM' n := by
  obtain ⟨h1, h2, h3⟩ := h
  refine ⟨?_, ?_, ?_⟩
  · rw [e2, e 21 (by omega) (by omega)]; exact h1
  · rw [e 21 (by omega) (by omega)]; exact h2
  · rw [e 21 (by omega) (by omega), e 22 (by omega) (by omega), e 23 (by omega) (by omega), e 24 (by omega) (by omega), e3]; exact h3
theorem zIg_cg {mC mM mC' mM' : zM} (h : zIg mC mM) (e : ∀ c : Nat, 29 ≤ c → c ≤ 32 → mC' c = mC c) (e2 : mM' 3 = mM 3) (e3 : mM' 4 = mM 4) : zIg mC' mM' := by
  intro k k0 k1
  rw [e (29 + 2 * k.toNat) (by omega) (by omega), e (29 + 2 * k.toNat + 1) (by omega) (by omega), e2, e3]
  exact h k k0 k1
theorem zTp_cg {mC mM mC' mM' : zM} (h : zTp mC mM) (e : ∀ c : Nat, 33 ≤ c → c ≤ 34 → mC' c = mC c) (e2 : mM' 5 = mM 5) (e3 : mM' 0 6 = mM 0 6) : zTp mC' mM' := by
  unfold zTp
  rw [e 33 (by omega) (by omega), e 34 (by omega) (by omega), e2, e3]
  exact h
theorem zSs_cg {mC mM mC' mM' : zM} (h : zSs mC mM) (e : ∀ c : Nat, 36 ≤ c → c ≤ 43 → mC' c = mC c) (e2 : mM' 6 = mM 6) (e3 : mM' 7 = mM 7) (e4 : mM' 8 = mM 8) : zSs mC' mM' := by
  intro s s0 s1
  rw [e (36 + 2 * s.toNat) (by omega) (by omega), e (36 + 2 * s.toNat + 1) (by omega) (by omega), e2, e3, e4]
  exact h s s0 s1
/-- the class's memory but for what is only tried -/
def zcE (mC mC' : zM) : Prop := zCI mC' 11 ∧ ∀ c : Nat, (1 ≤ c ∧ c ≤ 10) ∨ (21 ≤ c ∧ c ≤ 24) ∨ (29 ≤ c ∧ c ≤ 43) → mC' c = mC c
/-- the reference's memory but for what it only lays -/
def zmE (mM mM' : zM) : Prop := (∀ c : Nat, 2 ≤ c → c ≤ 8 → mM' c = mM c) ∧ mM' 0 0 = mM 0 0 ∧ mM' 0 2 = mM 0 2 ∧ mM' 0 6 = mM 0 6 ∧ ∀ i, 0 ≤ i → i < mM 0 0 → mM' 1 i = mM 1 i
theorem zmE_rf {m : zM} : zmE m m := ⟨fun _ _ _ => rfl, rfl, rfl, rfl, fun _ _ _ => rfl⟩
theorem zmE_lf {m m' : zM} (h : zlf m m') : zmE m m' := ⟨fun c h1 h2 => h.1 c (by omega) (by omega) (by omega), h.2 0 (by omega), h.2 2 (by omega), h.2 6 (by omega), fun i _ _ => by rw [h.1 1 (by omega) (by omega) (by omega)]⟩
theorem zmE_tr {m m' m'' : zM} (h : zmE m m') (h' : zmE m' m'') : zmE m m'' := ⟨fun c h1 h2 => (h'.1 c h1 h2).trans (h.1 c h1 h2), h'.2.1.trans h.2.1, h'.2.2.1.trans h.2.2.1, h'.2.2.2.1.trans h.2.2.2.1, fun i h1 h2 => (h'.2.2.2.2 i h1 (by rw [h.2.1]; exact h2)).trans (h.2.2.2.2 i h1 h2)⟩
theorem zRel_E {mC mM mC' mM' : zM} (h : zRel mC mM) (hc : zcE mC mC') (hm : zmE mM mM') : zRel mC' mM' := by
  obtain ⟨t, cr, ac, ig, tp, ss⟩ := h
  obtain ⟨c1, c2⟩ := hc
  obtain ⟨m1, m2, m3, m4, m5⟩ := hm
  refine ⟨zTx_cg t (fun c h1 h2 => c2 c (by omega)) m2 m5, c1, ?_, zIg_cg ig (fun c h1 h2 => c2 c (by omega)) (m1 3 (by omega) (by omega)) (m1 4 (by omega) (by omega)), zTp_cg tp (fun c h1 h2 => c2 c (by omega)) (m1 5 (by omega) (by omega)) m4, zSs_cg ss (fun c h1 h2 => c2 c (by omega)) (m1 6 (by omega) (by omega)) (m1 7 (by omega) (by omega)) (m1 8 (by omega) (by omega))⟩
  rw [c2 1 (by omega)]
  exact zAc_cg ac (fun c h1 h2 => c2 c (by omega)) m3 (m1 2 (by omega) (by omega))
theorem zcE_rf {mC mM : zM} (h : zRel mC mM) : zcE mC mC := ⟨h.cr, fun _ _ => rfl⟩
theorem zcE_fr {mC mC' : zM} (h : zCI mC' 11) (hf : zfr 11 mC mC') : zcE mC mC' := ⟨h, fun c hc => hf c (by omega)⟩
theorem zTx.T {mC mM : zM} (h : zTx mC mM) : zTm mM := by
  have hb := h.ct.1
  refine ⟨by rw [h.n]; exact hb.1, by rw [h.n]; exact hb.2, fun i i0 i1 => ?_⟩
  rw [h.n] at i1
  have := h.ct.2.1 i i0 i1
  have := h.x i i0 i1
  have e : mC (1 + 1) i = mC 2 i := rfl
  omega
theorem zTx.ci {mC mM : zM} (h : zTx mC mM) : zci (zx mM) (mC 3) (mC 4) (mC 5) (mC 6) (mC 7) (mC 8) (mC 9) (mC 10) (mM 0 0) (mC 1 10) := by
  rw [h.n]
  exact zci_cg h.ct (fun i i0 i1 => h.x i i0 i1)
