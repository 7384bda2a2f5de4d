/-! rows of letters more: grow, odds -/
def zpw (e : Int) : Int := if e = 0 then 1 else if e = 1 then 6 else if e = 2 then 36 else if e = 3 then 216 else 1296
theorem zpw_v : zpw 0 = 1 ∧ zpw 1 = 6 ∧ zpw 2 = 36 ∧ zpw 3 = 216 ∧ zpw 4 = 1296 := ⟨rfl, rfl, rfl, rfl, rfl⟩
theorem zpw_b {e : Int} (h : 0 ≤ e ∧ e ≤ 4) : 1 ≤ zpw e ∧ zpw e ≤ 1296 := by
  obtain ⟨p0, p1, p2, p3, p4⟩ := zpw_v
  rcases (by omega : e = 0 ∨ e = 1 ∨ e = 2 ∨ e = 3 ∨ e = 4) with rfl | rfl | rfl | rfl | rfl <;> omega
theorem zpw_s {e : Int} (h : 0 ≤ e ∧ e < 4) : zpw e * 6 = zpw (e + 1) := by
  rcases (by omega : e = 0 ∨ e = 1 ∨ e = 2 ∨ e = 3) with rfl | rfl | rfl | rfl <;> rfl
/-- the letter of place q of row t, of a letters -/
def zdt (a q t : Int) : Int := t / zpw (a - 1 - q) % 6
theorem zdt_b (a q t : Int) : 0 ≤ zdt a q t ∧ zdt a q t ≤ 5 := by unfold zdt; omega
theorem zdt_step {i e t : Int} (hi : 0 ≤ i ∧ i ≤ 3) (he : 0 ≤ e ∧ e ≤ 3) (ht : 0 ≤ t) (h5 : ∀ p, 0 ≤ p → p < i → t / zpw p % 6 = 5) (hd : t / zpw i % 6 ≤ 4) : (i < e → (t + 1) / zpw e % 6 = t / zpw e % 6) ∧ (e = i → (t + 1) / zpw e % 6 = t / zpw e % 6 + 1) ∧ (e < i → (t + 1) / zpw e % 6 = 0) := by
  obtain ⟨p0, p1, p2, p3, p4⟩ := zpw_v
  have a0 : 0 < i → t / 1 % 6 = 5 := fun q => by have := h5 0 (by omega) q; rw [p0] at this; exact this
  have a1 : 1 < i → t / 6 % 6 = 5 := fun q => by have := h5 1 (by omega) q; rw [p1] at this; exact this
  have a2 : 2 < i → t / 36 % 6 = 5 := fun q => by have := h5 2 (by omega) q; rw [p2] at this; exact this
  clear h5
  rcases (by omega : i = 0 ∨ i = 1 ∨ i = 2 ∨ i = 3) with rfl | rfl | rfl | rfl <;> rcases (by omega : e = 0 ∨ e = 1 ∨ e = 2 ∨ e = 3) with rfl | rfl | rfl | rfl <;> simp only [p0, p1, p2, p3] at hd ⊢ <;> refine ⟨fun q => ?_, fun q => ?_, fun q => ?_⟩ <;> omega
theorem zdt_last {a t : Int} (ha : 0 ≤ a ∧ a ≤ 4) (ht : 0 ≤ t) (ht2 : t < zpw a) (h5 : ∀ p, 0 ≤ p → p < a → t / zpw p % 6 = 5) : t + 1 = zpw a := by
  obtain ⟨p0, p1, p2, p3, p4⟩ := zpw_v
  have a0 : 0 < a → t / 1 % 6 = 5 := fun q => by have := h5 0 (by omega) q; rw [p0] at this; exact this
  have a1 : 1 < a → t / 6 % 6 = 5 := fun q => by have := h5 1 (by omega) q; rw [p1] at this; exact this
  have a2 : 2 < a → t / 36 % 6 = 5 := fun q => by have := h5 2 (by omega) q; rw [p2] at this; exact this
  have a3 : 3 < a → t / 216 % 6 = 5 := fun q => by have := h5 3 (by omega) q; rw [p3] at this; exact this
  clear h5
  rcases (by omega : a = 0 ∨ a = 1 ∨ a = 2 ∨ a = 3 ∨ a = 4) with rfl | rfl | rfl | rfl | rfl <;> simp only [p0, p1, p2, p3, p4] at ht2 ⊢ <;> omega
theorem power6 {e : Int} (h : 0 ≤ e ∧ e ≤ 4) : FX6_power e = some (zpw e) := by
  unfold FX6_power
  refine zlo2 (FX6_power_L4 e (fun y _ => some y)) (fun r u v => v + r = e ∧ 0 ≤ v ∧ u = zpw v) (fun z => z = some (zpw e)) ?_ ?_ e.toNat zfu 1 0 ⟨by omega, by omega, rfl⟩ (by show _ < 4000; omega)
  · intro f r u v ⟨i1, i2, i3⟩
    rw [FX6_power_L4_s]
    unfold FX6_power_L4_B
    rw [if_pos (zlt_i (by omega))]
    exact Or.inr ⟨_, _, rfl, by omega, by omega, by rw [i3, zpw_s (by omega)]⟩
  · intro f u v ⟨i1, i2, i3⟩
    rw [FX6_power_L4_s]
    unfold FX6_power_L4_B
    rw [if_neg (znlt_i (by omega)), i3, show v = e by omega]
theorem rows5 {e : Int} (h : 0 ≤ e ∧ e ≤ 4) : FX5_rowsOf e = some (zpw e) := by
  unfold FX5_rowsOf
  refine zlo2 (FX5_rowsOf_L4 e (fun y _ => some y)) (fun r u v => v + r = e ∧ 0 ≤ v ∧ u = zpw v) (fun z => z = some (zpw e)) ?_ ?_ e.toNat zfu 1 0 ⟨by omega, by omega, rfl⟩ (by show _ < 4000; omega)
  · intro f r u v ⟨i1, i2, i3⟩
    rw [FX5_rowsOf_L4_s]
    unfold FX5_rowsOf_L4_B
    rw [if_pos (zlt_i (by omega))]
    exact Or.inr ⟨_, _, rfl, by omega, by omega, by rw [i3, zpw_s (by omega)]⟩
  · intro f u v ⟨i1, i2, i3⟩
    rw [FX5_rowsOf_L4_s]
    unfold FX5_rowsOf_L4_B
    rw [if_neg (znlt_i (by omega)), i3, show v = e by omega]
/-- the tried text is the text x of n letters with row t of a letters behind it -/
def zRw (m : zM) (x : Int → Int) (n a t : Int) : Prop := zCI m 11 ∧ m 11 9 = n + a ∧ (∀ q, 0 ≤ q → q < n → m 12 q = x q) ∧ ∀ q, 0 ≤ q → q < a → m 12 (n + q) = 97 + zdt a q t
section RW
variable {mC mM m : zM} {x : Int → Int} {n a t : Int}
theorem start5 (h : zRel mC mM) (ha : 0 ≤ a) (hn : mC 1 9 + a ≤ 48) : ∃ m', FX5_startRows a mC = some m' ∧ zRw m' (mC 2) (mC 1 9) a 0 ∧ zfr 11 mC m' := by
  have hb : 0 ≤ mC 1 9 ∧ mC 1 9 ≤ 48 := h.t.ct.1
  obtain ⟨m4, d1, d2, d3, d4, d5, d6⟩ := trial_t h
  obtain ⟨m', e1, e2, e3, e4, e5, e6⟩ := lengthen_spec (k := a) d2 ha (by omega)
  have e4 : ∀ q, 0 ≤ q → q < m4 11 9 → m' 12 q = m4 12 q := e4
  have e5 : ∀ q, 0 ≤ q → q < a → m' 12 (m4 11 9 + q) = 97 := e5
  refine ⟨m', by unfold FX5_startRows; rw [zcl_p d1, zcl_p e1], ⟨e2, by omega, fun q q0 q1 => by rw [e4 q q0 (by omega), d4 q q0 q1], fun q q0 q1 => ?_⟩, zfr_tr d5 e6⟩
  have := e5 q q0 q1
  rw [d3] at this
  rw [this]
  unfold zdt
  rw [Int.zero_ediv]
  omega
theorem step5 (h : zRw m x n a t) (hn : 0 ≤ n) (ha : 0 ≤ a ∧ a ≤ 4) (hna : n + a ≤ 48) (ht : 0 ≤ t) (ht2 : t < zpw a) : ∃ m', FX5_stepRow a m = some m' ∧ zCI m' 11 ∧ zfr 11 m m' ∧ (t + 1 < zpw a → zRw m' x n a (t + 1)) := by
  obtain ⟨h1, h2, h3, h4⟩ := h
  unfold FX5_stepRow
  -- what is done behind the loop
  have fin : ∀ (i : Int) (m1 : zM), 0 ≤ i → i ≤ a → zCI m1 11 → m1 11 9 = n + a - i → m1 12 = m 12 → zfr 11 m m1 → (∀ p, 0 ≤ p → p < i → t / zpw p % 6 = 5) → (i < a → t / zpw i % 6 ≤ 4) →
      ∃ m', (zjn (fun (mj68 : zM) => zcl (FX1_lengthen 11 i mj68) fun m5 => some m5) fun j68 => if zI i < zI a then (zcl (FX1_lastLetter 11 m1) fun r6 => zcl (FX1_removeLast 11 m1) fun m7 => zcl2 (FX1_add 11 (r6 + 1) m7) fun r8 m8 => j68 m8) else (j68 m1)) = some m' ∧ zCI m' 11 ∧ zfr 11 m m' ∧ (t + 1 < zpw a → zRw m' x n a (t + 1)) := by
    intro i m1 i0 i1 g1 g2 g3 g4 g5 g6
    rw [zjn_p]
    by_cases c : i < a
    · have hl : FX1_lastLetter 11 m1 = some (97 + zdt a (a - 1 - i) t) := by
        have q := h4 (a - 1 - i) (by omega) (by omega)
        unfold FX1_lastLetter
        rw [if_neg (zne_i (by omega)), zrd_p ⟨by omega, by omega⟩, show (11 + 1 : Nat) = 12 from rfl, g3, show m1 11 9 - 1 = n + (a - 1 - i) by omega, q]
      have hz := zdt_b a (a - 1 - i) t
      have hz2 : zdt a (a - 1 - i) t ≤ 4 := by
        unfold zdt
        rw [show a - 1 - (a - 1 - i) = i by omega]
        exact g6 c
      obtain ⟨m7, d1, d2, d3, d4, d5⟩ := rem_spec g1 (by omega)
      have d4 : m7 12 = m1 12 := d4
      obtain ⟨r8, m8, e1, e2, e3, e4, e5, e6, e7⟩ := add_spec d2 (a := 97 + zdt a (a - 1 - i) t + 1) (by omega) (by omega)
      have e4 : m8 12 = zuf (m7 12) (m7 11 9) (97 + zdt a (a - 1 - i) t + 1) := e4
      obtain ⟨m', f1, f2, f3, f4, f5, f6⟩ := lengthen_spec (k := i) e2 i0 (by omega)
      have f4 : ∀ q, 0 ≤ q → q < m8 11 9 → m' 12 q = m8 12 q := f4
      have f5 : ∀ q, 0 ≤ q → q < i → m' 12 (m8 11 9 + q) = 97 := f5
      have k7 : m7 11 9 = n + (a - 1 - i) := by omega
      have k8 : m8 11 9 = n + (a - i) := by omega
      refine ⟨m', ?_, f2, zfr_tr g4 (zfr_tr d5 (zfr_tr e6 f6)), fun _ => ⟨f2, by omega, fun q q0 q1 => ?_, fun q q0 q1 => ?_⟩⟩
      · dsimp only
        rw [if_pos (zlt_i (by omega)), zcl_p hl, zcl_p d1, zcl2_p e1, zcl_p f1]
      · rw [f4 q q0 (by omega), e4, zuf_d _ _ (by omega), d4, g3]
        exact h3 q q0 q1
      · obtain ⟨s1, s2, s3⟩ := zdt_step (i := i) (e := a - 1 - q) (t := t) (by omega) (by omega) ht g5 (g6 c)
        by_cases c2 : q < a - 1 - i
        · rw [f4 _ (by omega) (by omega), e4, zuf_d _ _ (by omega), d4, g3, h4 q q0 q1]
          unfold zdt
          rw [s1 (by omega)]
        · by_cases c3 : q = a - 1 - i
          · subst c3
            rw [f4 _ (by omega) (by omega), e4, k7, zuf_e]
            unfold zdt
            rw [s2 (by omega)]
            omega
          · have := f5 (q - (a - i)) (by omega) (by omega)
            rw [k8, show n + (a - i) + (q - (a - i)) = n + q by omega] at this
            rw [this]
            unfold zdt
            rw [s3 (by omega)]
            omega
    · have e : i = a := by omega
      subst e
      obtain ⟨m', f1, f2, f3, f4, f5, f6⟩ := lengthen_spec (k := i) g1 i0 (by omega)
      have := zdt_last ha ht ht2 g5
      refine ⟨m', ?_, f2, zfr_tr g4 f6, fun q => by omega⟩
      dsimp only
      rw [if_neg (znlt_i (by omega)), zcl_p f1]
  refine zlom2 (FX5_stepRow_L4 a (fun y4_2 y4_3 m4_ => zjn (fun (mj68 : zM) => zcl (FX1_lengthen 11 y4_2 mj68) fun m5 => some m5) fun j68 => if zI y4_2 < zI a then (zcl (FX1_lastLetter 11 m4_) fun r6 => zcl (FX1_removeLast 11 m4_) fun m7 => zcl2 (FX1_add 11 (r6 + 1) m7) fun r8 m8 => j68 m8) else (j68 m4_))) (fun r u v m1 => u = v ∧ 0 ≤ v ∧ v + r = a ∧ zCI m1 11 ∧ m1 11 9 = n + a - v ∧ m1 12 = m 12 ∧ zfr 11 m m1 ∧ ∀ p, 0 ≤ p → p < v → t / zpw p % 6 = 5) (fun z => ∃ m', z = some m' ∧ zCI m' 11 ∧ zfr 11 m m' ∧ (t + 1 < zpw a → zRw m' x n a (t + 1))) ?_ ?_ a.toNat zfu 0 0 m ⟨rfl, by omega, by omega, h1, by omega, rfl, zfr_rf, fun p p0 p1 => by omega⟩ (by show _ < 4000; omega)
  · intro f r u v m1 ⟨i0, i1, i2, i3, i4, i5, i6, i7⟩
    subst i0
    have q := h4 (a - 1 - u) (by omega) (by omega)
    have hz := zdt_b a (a - 1 - u) t
    have hl : FX1_lastLetter 11 m1 = some (97 + zdt a (a - 1 - u) t) := by
      unfold FX1_lastLetter
      rw [if_neg (zne_i (by omega)), zrd_p ⟨by omega, by omega⟩, show (11 + 1 : Nat) = 12 from rfl, i5, show m1 11 9 - 1 = n + (a - 1 - u) by omega, q]
    have hzd : zdt a (a - 1 - u) t = t / zpw u % 6 := by unfold zdt; rw [show a - 1 - (a - 1 - u) = u by omega]
    rw [FX5_stepRow_L4_s]
    unfold FX5_stepRow_L4_B
    rw [if_pos (zlt_i (by omega)), zcl_p hl]
    by_cases c : zdt a (a - 1 - u) t = 5
    · obtain ⟨m2, d1, d2, d3, d4, d5⟩ := rem_spec i3 (by omega)
      have d4 : m2 12 = m1 12 := d4
      rw [if_pos (congrArg zI (by omega)), zcl_p d1]
      refine Or.inr ⟨u + 1, u + 1, m2, rfl, rfl, by omega, by omega, d2, by omega, d4.trans i5, zfr_tr i6 d5, fun p p0 p1 => ?_⟩
      by_cases e : p = u
      · subst e; omega
      · exact i7 p p0 (by omega)
    · rw [if_neg (zne_i (by omega))]
      exact Or.inl (fin u m1 i1 (by omega) i3 i4 i5 i6 i7 (fun _ => by omega))
  · intro f u v m1 ⟨i0, i1, i2, i3, i4, i5, i6, i7⟩
    subst i0
    rw [FX5_stepRow_L4_s]
    unfold FX5_stepRow_L4_B
    rw [if_neg (znlt_i (by omega))]
    exact fin u m1 i1 (by omega) i3 i4 i5 i6 i7 (fun q => by omega)
/-- a new palindrome ends at p -/
def zNw (x : Int → Int) (p : Int) : Prop := ∃ k, zL x p k ∧ zN x p k
theorem zNw_cg {y : Int → Int} {p : Int} (h : ∀ q, 0 ≤ q → q ≤ p → x q = y q) (hh : zNw x p) : zNw y p := by
  obtain ⟨k, k1, k2⟩ := hh
  exact ⟨k, zL_cg h k1, zN_cg h k1.2.1 (by have := k1.1; omega) k2⟩
/-- how many nodes a row brings, as the reference counts -/
theorem more6 (h : zRw m x n a t) (hn : mM 0 0 = n) (hT : zTm mM) (hx : ∀ q, 0 ≤ q → q < n → x q = zx mM q) (ha : 0 ≤ a ∧ a ≤ 4) (hna : n + a ≤ 48) (ht : 0 ≤ t ∧ t < 1300) {N : Int} (hN : N = zct (zNw (zx mM)) n.toNat) : ∃ mM', FX6_more a t mM = some (m 11 10 - N, mM') ∧ zmE mM mM' ∧ 0 ≤ m 11 10 - N ∧ m 11 10 ≤ 48 := by
  obtain ⟨h1, h2, h3, h4⟩ := h
  have n0 := hT.1
  have hNd : zNd (m 12) (n + a) (m 11 10) (m 18) (m 14) := by
    have := h1.2.2.1
    rw [h2] at this
    exact this
  have hct := zNd_ct hNd (by omega)
  have hct : m 11 10 = zct (zNw (m 12)) (n + a).toNat := hct
  have hN2 : N = zct (zNw (m 12)) n.toNat := by
    rw [hN]
    refine zct_cg _ (fun p p0 p1 => ⟨fun hh => zNw_cg (fun q q0 q1 => ?_) hh, fun hh => zNw_cg (fun q q0 q1 => ?_) hh⟩)
    · rw [h3 q q0 (by omega), hx q q0 (by omega)]
    · rw [h3 q q0 (by omega), hx q q0 (by omega)]
  have hb9 : m 11 10 ≤ 48 := by have := zNd_N hNd (by omega); omega
  unfold FX6_more
  refine zlom2 (FX6_more_L11 a t (mM 0 0) (fun y11_4 y11_5 m11_ => zpf m11_ 0 0 (mM 0 0) fun m8 => some (y11_4, m8))) (fun r c v m1 => v + r = a ∧ 0 ≤ v ∧ m1 0 0 = n + v ∧ zWf mM m1 ∧ (∀ i, 0 ≤ i → i < n + v → zx m1 i = m 12 i) ∧ (∀ i, 0 ≤ i → i < n → m1 1 i = mM 1 i) ∧ 0 ≤ c ∧ c = zct (zNw (m 12)) (n + v).toNat - N) (fun z => ∃ mM', z = some (m 11 10 - N, mM') ∧ zmE mM mM' ∧ 0 ≤ m 11 10 - N ∧ m 11 10 ≤ 48) ?_ ?_ a.toNat zfu 0 0 mM ⟨by omega, by omega, by omega, ⟨fun _ _ => rfl, fun _ _ => rfl⟩, fun i i0 i1 => by rw [h3 i i0 (by omega), hx i i0 (by omega)], fun _ _ _ => rfl, by omega, by rw [show (n + 0).toNat = n.toNat by omega, hN2]; omega⟩ (by show _ < 4000; omega)
  · intro f r c v m1 ⟨i1, i2, i3, i4, i5, i6, i7, i8⟩
    have pb := zpw_b (e := a - 1 - v) (by omega)
    have hd := zdt_b a v t
    have hd' : t / zpw (a - 1 - v) % 6 = zdt a v t := rfl
    have hdv : 0 ≤ t / zpw (a - 1 - v) ∧ t / zpw (a - 1 - v) ≤ t := ⟨Int.ediv_nonneg ht.1 (by omega), Int.ediv_le_self _ ht.1⟩
    obtain ⟨m4, hm4⟩ : ∃ q, q = zup (zup m1 1 (m1 0 0) (zdt a v t)) 0 0 (m1 0 0 + 1) := ⟨_, rfl⟩
    have e0 : m4 0 0 = n + v + 1 := by rw [hm4, zup_c, zuf_e, i3]
    have e1 : m4 1 = zuf (m1 1) (n + v) (zdt a v t) := by rw [hm4, zup_o _ _ _ (by omega), zup_c, i3]
    have ex : ∀ i, 0 ≤ i → i < n + v + 1 → zx m4 i = m 12 i := fun i i0 j1 => by
      by_cases e : i = n + v
      · subst e
        unfold zx
        rw [e1, zuf_e, h4 v i2 (by omega)]
      · have := i5 i i0 (by omega)
        unfold zx at this ⊢
        rw [e1, zuf_d _ _ e]
        exact this
    have hT4 : zTm m4 := ⟨by omega, by omega, fun i i0 j1 => by
      have q1 := ex i i0 (by omega)
      have q2 : 97 ≤ m 12 i ∧ m 12 i ≤ 102 := h1.2.1 i i0 (by omega)
      unfold zx at q1
      omega⟩
    obtain ⟨q, k, q1, q2, q3⟩ := isNew_spec hT4 (p := n + v) (by omega) (by omega)
    have hw : zWf mM m4 := zWf_tr i4 ⟨fun c hc => by rw [hm4, zup_o _ _ _ (by omega), zup_o _ _ _ (by omega)], fun i hi => by rw [hm4, zup_c, zuf_d _ _ hi, zup_o _ _ _ (by omega)]⟩
    have e6 : ∀ i, 0 ≤ i → i < n → m4 1 i = mM 1 i := fun i i0 j1 => by rw [e1, zuf_d _ _ (by omega)]; exact i6 i i0 j1
    have e8 : zct (zNw (m 12)) (n + (v + 1)).toNat = zct (zNw (m 12)) (n + v).toNat + zin (zNw (m 12) (n + v)) := by
      rw [show (n + (v + 1)).toNat = (n + v).toNat + 1 by omega, zct_s, show (((n + v).toNat : Nat) : Int) = n + v by omega]
    have hiff : zN (zx m4) (n + v) k ↔ zNw (m 12) (n + v) := ⟨fun hh => zNw_cg (fun q q0 q1 => ex q q0 (by omega)) ⟨k, q2, hh⟩, fun hh => by
      obtain ⟨k', k1, k2⟩ := zNw_cg (y := zx m4) (fun q q0 q1 => (ex q q0 (by omega)).symm) hh
      rw [zL_u q2 k1]
      exact k2⟩
    rw [FX6_more_L11_s]
    unfold FX6_more_L11_B
    rw [if_pos (zlt_i (by omega)), zcl_p (power6 (by omega)), zgd_p ⟨by omega, by omega, by omega, by omega⟩, zgd_p ⟨by omega, by omega, by omega, by omega⟩, hd', zcl_p (push_spec (by omega)), ← hm4, show m4 0 0 - 1 = n + v by omega, zcl_p q1]
    by_cases c2 : zNw (m 12) (n + v)
    · rw [if_neg (zyn_1 q3 (hiff.mpr c2))]
      exact Or.inr ⟨c + 1, v + 1, m4, rfl, by omega, by omega, by omega, hw, fun i i0 j1 => ex i i0 (by omega), e6, by omega, by rw [e8, zin_1 c2]; omega⟩
    · rw [if_pos (zyn_0 q3 (fun hh => c2 (hiff.mp hh)))]
      exact Or.inr ⟨c + 0, v + 1, m4, rfl, by omega, by omega, by omega, hw, fun i i0 j1 => ex i i0 (by omega), e6, by omega, by rw [e8, zin_0 c2]; omega⟩
  · intro f c v m1 ⟨i1, i2, i3, i4, i5, i6, i7, i8⟩
    have e : v = a := by omega
    subst e
    rw [FX6_more_L11_s]
    unfold FX6_more_L11_B
    rw [if_neg (znlt_i (by omega))]
    dsimp only
    rw [zpf_p, hct, ← i8]
    refine ⟨_, rfl, ⟨fun c c1 c2 => by rw [zup_o _ _ _ (by omega), i4.1 c c1], by rw [zup_c, zuf_e], by rw [zup_c, zuf_d _ _ (by omega), i4.2 2 (by omega)], by rw [zup_c, zuf_d _ _ (by omega), i4.2 6 (by omega)], fun i i0 j1 => by rw [zup_o _ _ _ (by omega)]; exact i6 i i0 (by omega)⟩, i7, by omega⟩
end RW
