/-! in -/
section SHF
variable {x y : Int → Int} {i n a b k : Int}
theorem zp_sh (hx : ∀ q, 0 ≤ q → q < n → y q = x (i + q)) (h0 : 0 ≤ a) (h1 : a + k ≤ n) : zp y a k ↔ zp x (i + a) k := by
  have e : ∀ d, 0 ≤ d → d < k → y (a + d) = x (i + a + d) ∧ y (a + k - 1 - d) = x (i + a + k - 1 - d) := fun d d0 d1 => ⟨(hx _ (by omega) (by omega)).trans (congrArg x (by omega)), (hx _ (by omega) (by omega)).trans (congrArg x (by omega))⟩
  exact ⟨fun h d d0 d1 => (e d d0 d1).1.symm.trans ((h d d0 d1).trans (e d d0 d1).2), fun h d d0 d1 => (e d d0 d1).1.trans ((h d d0 d1).trans (e d d0 d1).2.symm)⟩
theorem zs_sh (hx : ∀ q, 0 ≤ q → q < n → y q = x (i + q)) (h0 : 0 ≤ a) (h1 : a + k ≤ n) (h2 : 0 ≤ b) (h3 : b + k ≤ n) : zs y a b k ↔ zs x (i + a) (i + b) k := by
  have e : ∀ d, 0 ≤ d → d < k → y (a + d) = x (i + a + d) ∧ y (b + d) = x (i + b + d) := fun d d0 d1 => ⟨(hx _ (by omega) (by omega)).trans (congrArg x (by omega)), (hx _ (by omega) (by omega)).trans (congrArg x (by omega))⟩
  exact ⟨fun h d d0 d1 => (e d d0 d1).1.symm.trans ((h d d0 d1).trans (e d d0 d1).2), fun h d d0 d1 => (e d d0 d1).1.trans ((h d d0 d1).trans (e d d0 d1).2.symm)⟩
end SHF
/-- a palindrome of a span that stands nowhere in it ahead; place and length in one number -/
def zU (x : Int → Int) (i j t : Int) : Prop := 1 ≤ t % 49 ∧ i + t / 49 + t % 49 ≤ j ∧ zp x (i + t / 49) (t % 49) ∧ ∀ o, i ≤ o → o < i + t / 49 → ¬ zs x o (i + t / 49) (t % 49)
section UN
variable {m : zM}
theorem unl36 (h : zTm m) {a1 a2 k3 k4 k5 is0 : Int} {M : Prop} {K : Int → Int → Option Int} (h0 : 0 ≤ a1) (h1 : a1 ≤ k4) (h2 : 0 ≤ k5) (h3 : k4 + k5 ≤ m 0 0) (hM : zyn is0 M) : ∃ r o, FX6_unlike_L36 a1 a2 k3 k4 k5 m K zfu is0 a1 = K r o ∧ zyn r (M ∧ ∀ o, a1 ≤ o → o < k4 → ¬ zs (zx m) o k4 k5) := by
  have hb := h.2.1
  rcases hM with ⟨rfl, hM⟩ | ⟨rfl, hM⟩
  · have hw := wl_all (FX6_unlike_L36 a1 a2 k3 k4 k5 m K) K (fun d => ¬ zs (zx m) d k4 k5) a1 k4
      (fun f d d0 d1 => by
        obtain ⟨q, q1, q2⟩ := isSame_spec h (i := d) (j := k4) (k := k5) (by omega) (by omega) (by omega) (by omega) (by omega)
        constructor
        · intro c
          rw [FX6_unlike_L36_s]
          unfold FX6_unlike_L36_B
          rw [if_pos (zlt_i (by omega)), if_neg zI_ne10, zcl_p q1, if_pos (zyn_0 q2 c)]
        · intro c
          rw [FX6_unlike_L36_s]
          unfold FX6_unlike_L36_B
          rw [if_pos (zlt_i (by omega)), if_neg zI_ne10, zcl_p q1, if_neg (zyn_1 q2 (Classical.not_not.mp c))])
      (fun f is => by
        rw [FX6_unlike_L36_s]
        unfold FX6_unlike_L36_B
        rw [if_neg (znlt_i (by omega))])
      (fun f d d0 d1 => by
        rw [FX6_unlike_L36_s]
        unfold FX6_unlike_L36_B
        rw [if_pos (zlt_i (by omega)), if_pos rfl])
      (k4 - a1).toNat zfu a1 (by omega) (by omega) (by show _ ≤ 4000; omega)
    rcases hw with ⟨d', q1, q2⟩ | ⟨d', q1, e, q2, q3, q4⟩
    · exact ⟨1, d', q1, Or.inl ⟨rfl, hM, q2⟩⟩
    · exact ⟨0, d', q1, Or.inr ⟨rfl, fun hh => q4 (hh.2 e q2 q3)⟩⟩
  · refine ⟨0, a1, ?_, Or.inr ⟨rfl, fun hh => hM hh.1⟩⟩
    show FX6_unlike_L36 a1 a2 k3 k4 k5 m K (3999 + 1) 0 a1 = _
    rw [FX6_unlike_L36_s]
    unfold FX6_unlike_L36_B
    by_cases c : a1 < k4
    · rw [if_pos (zlt_i (by omega)), if_pos rfl]
    · rw [if_neg (znlt_i (by omega))]
theorem unl14 (h : zTm m) {i j a acc : Int} {K : Int → Int → Option Int} (h0 : 0 ≤ i) (h1 : j ≤ m 0 0) (a0 : 0 ≤ a) (a1 : i + a < j) (hacc : acc = zct (zU (zx m) i j) (a * 49).toNat) : ∃ w, FX6_unlike_L14 i j (i + a) m K zfu acc 1 = K (zct (zU (zx m) i j) ((a + 1) * 49).toNat) w := by
  have hb := h.2.1
  refine zlo2 (FX6_unlike_L14 i j (i + a) m K) (fun r c w => w + r = j - i - a + 1 ∧ 1 ≤ w ∧ c = zct (zU (zx m) i j) (a * 49 + w).toNat) (fun z => ∃ w, z = K (zct (zU (zx m) i j) ((a + 1) * 49).toNat) w) ?_ ?_ (j - i - a).toNat zfu acc 1 ⟨by omega, by omega, ?_⟩ (by show _ < 4000; omega)
  · intro f r c w ⟨i1, i2, i3⟩
    obtain ⟨q, q1, q2⟩ := isMirror_spec h (i := i + a) (k := w) (by omega) (by omega) (by omega)
    obtain ⟨q', o, s1, s2⟩ := unl36 h (a1 := i) (a2 := j) (k3 := c) (k4 := i + a) (k5 := w) (K := fun y36_6 y36_7 => if zI y36_6 = zI 0 then (FX6_unlike_L14 i j (i + a) m K f (c + 0) (w + 1)) else (FX6_unlike_L14 i j (i + a) m K f (c + 1) (w + 1))) h0 (by omega) (by omega) (by omega) q2
    rw [FX6_unlike_L14_s]
    unfold FX6_unlike_L14_B
    rw [if_neg (znlt_i (by omega)), zcl_p q1, s1]
    have e : zct (zU (zx m) i j) (a * 49 + (w + 1)).toNat = c + zin (zU (zx m) i j (a * 49 + w)) := by
      rw [show (a * 49 + (w + 1)).toNat = (a * 49 + w).toNat + 1 by omega, zct_s, i3, show (((a * 49 + w).toNat : Nat) : Int) = a * 49 + w by omega]
    have eU : zU (zx m) i j (a * 49 + w) ↔ (zp (zx m) (i + a) w ∧ ∀ o, i ≤ o → o < i + a → ¬ zs (zx m) o (i + a) w) := by
      unfold zU
      rw [show (a * 49 + w) % 49 = w by omega, show (a * 49 + w) / 49 = a by omega]
      exact ⟨fun hh => hh.2.2, fun hh => ⟨i2, by omega, hh⟩⟩
    by_cases c2 : zU (zx m) i j (a * 49 + w)
    · rw [if_neg (zyn_1 s2 (eU.mp c2))]
      exact Or.inr ⟨c + 1, w + 1, rfl, by omega, by omega, by rw [e, zin_1 c2]⟩
    · rw [if_pos (zyn_0 s2 (fun hh => c2 (eU.mpr hh)))]
      exact Or.inr ⟨c + 0, w + 1, rfl, by omega, by omega, by rw [e, zin_0 c2]⟩
  · intro f c w ⟨i1, i2, i3⟩
    rw [FX6_unlike_L14_s]
    unfold FX6_unlike_L14_B
    rw [if_pos (zlt_i (by omega))]
    refine ⟨w, ?_⟩
    have q := zct_out (P := zU (zx m) i j) (a := (a * 49 + w).toNat) ((a + 1) * 49 - (a * 49 + w)).toNat (fun t t0 t1 hh => by
      have := hh.2.1
      have := hh.1
      omega)
    rw [show (a * 49 + w).toNat + ((a + 1) * 49 - (a * 49 + w)).toNat = ((a + 1) * 49).toNat by omega] at q
    rw [q, i3]
  · rw [show (a * 49 + 1).toNat = (a * 49).toNat + 1 by omega, zct_s, ← hacc, zin_0 (fun hh => by have := hh.1; omega)]
    omega
theorem unlike6 (h : zTm m) {i j : Int} (h0 : 0 ≤ i) (h1 : i ≤ j) (h2 : j ≤ m 0 0) : FX6_unlike i j m = some (zct (zU (zx m) i j) ((j - i) * 49).toNat) := by
  have hb := h.2.1
  unfold FX6_unlike
  refine zlo2 (FX6_unlike_L5 i j m (fun y _ => some y)) (fun r c a => a + r = j ∧ i ≤ a ∧ c = zct (zU (zx m) i j) ((a - i) * 49).toNat) (fun z => z = some (zct (zU (zx m) i j) ((j - i) * 49).toNat)) ?_ ?_ (j - i).toNat zfu 0 i ⟨by omega, by omega, by rw [show ((i - i) * 49).toNat = 0 by omega]; rfl⟩ (by show _ < 4000; omega)
  · intro f r c a ⟨i1, i2, i3⟩
    obtain ⟨w, hw⟩ := unl14 h (i := i) (j := j) (a := a - i) (acc := c) (K := fun y14_3 y14_5 => FX6_unlike_L5 i j m (fun y _ => some y) f y14_3 (a + 1)) h0 h2 (by omega) (by omega) i3
    rw [show i + (a - i) = a by omega] at hw
    refine Or.inr ⟨zct (zU (zx m) i j) ((a - i + 1) * 49).toNat, a + 1, ?_, by omega, by omega, by rw [show a + 1 - i = a - i + 1 by omega]⟩
    rw [FX6_unlike_L5_s]
    unfold FX6_unlike_L5_B
    rw [if_pos (zlt_i (by omega)), hw]
  · intro f c a ⟨i1, i2, i3⟩
    rw [FX6_unlike_L5_s]
    unfold FX6_unlike_L5_B
    rw [if_neg (znlt_i (by omega)), i3, show a = j by omega]
theorem in56 (h : zTm m) {i j a3 w : Int} {K : Int → Option Int} (h0 : 0 ≤ i) (h1 : i ≤ j) (h2 : j ≤ m 0 0) (w0 : 1 ≤ w) (w1 : i + w ≤ j) : (∃ p, FX6_in_L56 i j a3 w m K zfu i = (if zI a3 = zI 0 then some w else some p) ∧ i ≤ p ∧ p + w ≤ j ∧ zp (zx m) p w ∧ ∀ q, i ≤ q → q < p → ¬ zp (zx m) q w) ∨ (∃ v, FX6_in_L56 i j a3 w m K zfu i = K v ∧ ∀ q, i ≤ q → q + w ≤ j → ¬ zp (zx m) q w) := by
  have hb := h.2.1
  refine zlo1 (FX6_in_L56 i j a3 w m K) (fun r v => v + r = j - w + 1 ∧ i ≤ v ∧ ∀ q, i ≤ q → q < v → ¬ zp (zx m) q w) (fun z => (∃ p, z = (if zI a3 = zI 0 then some w else some p) ∧ i ≤ p ∧ p + w ≤ j ∧ zp (zx m) p w ∧ ∀ q, i ≤ q → q < p → ¬ zp (zx m) q w) ∨ (∃ v, z = K v ∧ ∀ q, i ≤ q → q + w ≤ j → ¬ zp (zx m) q w)) ?_ ?_ (j - w + 1 - i).toNat zfu i ⟨by omega, by omega, fun q q0 q1 => by omega⟩ (by show _ < 4000; omega)
  · intro f r v ⟨i1, i2, i3⟩
    obtain ⟨q, q1, q2⟩ := isMirror_spec h (i := v) (k := w) (by omega) (by omega) (by omega)
    rw [FX6_in_L56_s]
    unfold FX6_in_L56_B
    rw [if_neg (znlt_i (by omega)), zcl_p q1]
    by_cases c : zp (zx m) v w
    · rw [if_neg (zyn_1 q2 c)]
      exact Or.inl (Or.inl ⟨v, rfl, i2, by omega, c, i3⟩)
    · rw [if_pos (zyn_0 q2 c)]
      refine Or.inr ⟨v + 1, rfl, by omega, by omega, fun q q0 q1 hq => ?_⟩
      by_cases e : q = v
      · subst e; exact c hq
      · exact i3 q q0 (by omega) hq
  · intro f v ⟨i1, i2, i3⟩
    rw [FX6_in_L56_s]
    unfold FX6_in_L56_B
    rw [if_pos (zlt_i (by omega))]
    exact Or.inr ⟨v, rfl, fun q q0 q1 => i3 q q0 (by omega)⟩
theorem in48 (h : zTm m) {i j a3 : Int} {K : Int → Option Int} (h0 : 0 ≤ i) (h1 : i ≤ j) (h2 : j ≤ m 0 0) : (j = i ∧ FX6_in_L48 i j a3 m K zfu (j - i) = K 0) ∨ (∃ w p, FX6_in_L48 i j a3 m K zfu (j - i) = (if zI a3 = zI 0 then some w else some p) ∧ 1 ≤ w ∧ i ≤ p ∧ p + w ≤ j ∧ zp (zx m) p w ∧ (∀ q, i ≤ q → q < p → ¬ zp (zx m) q w) ∧ ∀ u q, w < u → i ≤ q → q + u ≤ j → ¬ zp (zx m) q u) := by
  have hb := h.2.1
  refine zlo1 (FX6_in_L48 i j a3 m K) (fun r v => v = r ∧ v ≤ j - i ∧ ∀ u q, v < u → i ≤ q → q + u ≤ j → ¬ zp (zx m) q u) (fun z => (j = i ∧ z = K 0) ∨ (∃ w p, z = (if zI a3 = zI 0 then some w else some p) ∧ 1 ≤ w ∧ i ≤ p ∧ p + w ≤ j ∧ zp (zx m) p w ∧ (∀ q, i ≤ q → q < p → ¬ zp (zx m) q w) ∧ ∀ u q, w < u → i ≤ q → q + u ≤ j → ¬ zp (zx m) q u)) ?_ ?_ (j - i).toNat zfu (j - i) ⟨by omega, by omega, fun u q a b c => by omega⟩ (by show _ < 4000; omega)
  · intro f r v ⟨i1, i2, i3⟩
    rw [FX6_in_L48_s]
    unfold FX6_in_L48_B
    rw [if_pos (zlt_i (by omega))]
    rcases in56 h (i := i) (j := j) (a3 := a3) (w := v) (K := fun y56_5 => FX6_in_L48 i j a3 m K f (v + -1)) h0 h1 h2 (by omega) (by omega) with ⟨p, q1, q2, q3, q4, q5⟩ | ⟨u, q1, q2⟩
    · rw [q1]
      exact Or.inl (Or.inr ⟨v, p, rfl, by omega, q2, q3, q4, q5, i3⟩)
    · rw [q1]
      refine Or.inr ⟨v + -1, rfl, by omega, by omega, fun u q a b c => ?_⟩
      by_cases e : u = v
      · subst e; exact q2 q b c
      · exact i3 u q (by omega) b c
  · intro f v ⟨i1, i2, i3⟩
    rw [FX6_in_L48_s]
    unfold FX6_in_L48_B
    rw [if_neg (znlt_i (by omega)), show v = 0 by omega]
    refine Or.inl ⟨?_, rfl⟩
    by_cases e : j = i
    · exact e
    · exact absurd (zp_1 (Int.le_refl 1)) (i3 1 i (by omega) (by omega) (by omega))
end UN
section IN
variable {mC mM : zM}
theorem S_in (h : zRel mC mM) : zS_in zRel mC mM := by
  intro a1 h1 a2 h2 a3 h3
  have hb : 0 ≤ mC 1 9 ∧ mC 1 9 ≤ 48 := h.t.ct.1
  have b0 := h.t.n
  have hT := h.t.T
  obtain ⟨r1, p1, p2⟩ := w5 (a := a3) (lo := 0) (hi := 2) ⟨h3, by omega, by omega⟩
  obtain ⟨r2, p3, p4⟩ := w6 (a := a3) (lo := 0) (hi := 2) ⟨h3, by omega, by omega⟩
  by_cases c1 : a1 < 0
  · refine ⟨-1, mC, ?_, ?_, h⟩
    · unfold FX5_in; rw [if_pos (zlt_i (by omega))]
    · unfold FX6_in; rw [if_pos (zlt_i (by omega))]
  have n1 : ¬ zI a1 < zI 0 := znlt_i (by omega)
  by_cases c2 : a2 < a1
  · refine ⟨-1, mC, ?_, ?_, h⟩
    · unfold FX5_in; rw [if_neg n1, if_pos (zlt_i (by omega))]
    · unfold FX6_in; rw [if_neg n1, if_pos (zlt_i (by omega))]
  have n2 : ¬ zI a2 < zI a1 := znlt_i (by omega)
  by_cases c3 : mC 1 9 < a2
  · refine ⟨-1, mC, ?_, ?_, h⟩
    · unfold FX5_in; rw [if_neg n1, if_neg n2, if_pos (zlt_i (by omega))]
    · unfold FX6_in; rw [if_neg n1, if_neg n2, if_pos (zlt_i (by omega))]
  have n3 : ¬ zI (mC 1 9) < zI a2 := znlt_i (by omega)
  have n3' : ¬ zI (mM 0 0) < zI a2 := znlt_i (by omega)
  by_cases c4 : 0 ≤ a3 ∧ a3 ≤ 2
  case neg =>
    refine ⟨-1, mC, ?_, ?_, h⟩
    · unfold FX5_in; rw [if_neg n1, if_neg n2, if_neg n3, zcl_p p1, if_pos (zyn_0 p2 c4)]
    · unfold FX6_in; rw [if_neg n1, if_neg n2, if_neg n3', zgd_p h3, zcl_p p3, if_pos (zyn_0 p4 c4)]
  obtain ⟨m2, d1, d2, d3, d4, d5⟩ := load_spec (o := 11) (c := 2) (n1 := 48) (i := a1) (j := a2) h.cr (by omega) (by omega) (by omega) (by omega) (by omega) (fun q q0 q1 => h.t.ct.2.1 q (by omega) (show q < mC 1 9 by omega))
  have hR := zRel_E h (zcE_fr d2 d5) zmE_rf
  have d4 : ∀ q, 0 ≤ q → q < a2 - a1 → m2 12 q = mC 2 (a1 + q) := d4
  have hx : ∀ q, 0 ≤ q → q < a2 - a1 → m2 12 q = zx mM (a1 + q) := fun q q0 q1 => by rw [d4 q q0 q1]; exact h.t.x _ (by omega) (by omega)
  have hd : zNd (m2 12) (a2 - a1) (m2 11 10) (m2 18) (m2 14) := by
    have := d2.2.2.1
    rw [d3] at this
    exact this
  have hN : 0 ≤ m2 11 10 ∧ m2 11 10 ≤ a2 - a1 := ⟨hd.1, zNd_N hd (by omega)⟩
  have sC : FX5_in a1 a2 a3 mC = (if zI a3 = zI 2 then (some ((m2 11 10), m2)) else (zcl (FX1_longestNode 11 m2) fun r3 => if zI a3 = zI 0 then (if zI r3 = zI (-1) then (some (0, m2)) else (zrd m2 14 r3 50 fun x6 => some (x6, m2))) else (if zI r3 = zI (-1) then (some ((-4), m2)) else (zcl (FX1_firstPlace 11 r3 m2) fun r4 => some ((a1 + r4), m2))))) := by
    unfold FX5_in; rw [if_neg n1, if_neg n2, if_neg n3, zcl_p p1, if_neg (zyn_1 p2 c4), zcl_p d1]
  have sM : FX6_in a1 a2 a3 mM = (if zI a3 = zI 2 then (zcl (FX6_unlike a1 a2 mM) fun r9 => some r9) else (FX6_in_L48 a1 a2 a3 mM (fun y48_4 => if zI a3 = zI 0 then (some 0) else (some (-4))) zfu (a2 - a1))) := by
    unfold FX6_in; rw [if_neg n1, if_neg n2, if_neg n3', zgd_p h3, zcl_p p3, if_neg (zyn_1 p4 c4)]
  rw [sC, sM]
  by_cases c5 : a3 = 2
  · have z5 : zI a3 = zI 2 := by rw [c5]
    rw [if_pos z5, if_pos z5, zcl_p (unlike6 hT (by omega) (by omega) (by omega))]
    refine ⟨_, m2, rfl, ?_, hR⟩
    refine congrArg some ?_
    rw [zNd_ct hd (by omega)]
    have hU : ∀ t, 0 ≤ t → zU (zx mM) a1 a2 t → zL (m2 12) (t / 49 + t % 49 - 1) (t % 49) ∧ zN (m2 12) (t / 49 + t % 49 - 1) (t % 49) := fun t t0 ⟨u1, u2, u3, u4⟩ => by
      have hN' : zN (m2 12) (t / 49 + t % 49 - 1) (t % 49) := fun o o0 o1 ho => by
        refine u4 (a1 + o) (by omega) (by omega) ?_
        have := (zs_sh hx (by omega) (by omega) (by omega) (by omega)).mp ho
        rw [show a1 + (t / 49 + t % 49 - 1 + 1 - t % 49) = a1 + t / 49 by omega] at this
        exact this
      refine ⟨zN_L u1 (by omega) ?_ hN', hN'⟩
      refine (zp_sh hx (by omega) (by omega)).mpr ?_
      rw [show a1 + (t / 49 + t % 49 - 1 + 1 - t % 49) = a1 + t / 49 by omega]
      exact u3
    refine (zct_bij (fun p t => zU (zx mM) a1 a2 t ∧ p = t / 49 + t % 49 - 1) ?_ ?_ ?_ ?_).symm
    · rintro p p0 p1 ⟨k, k1, k2⟩
      have kb := k1.2.1
      have kc := k1.1
      have e1 : ((p + 1 - k) * 49 + k) % 49 = k := by omega
      have e2 : ((p + 1 - k) * 49 + k) / 49 = p + 1 - k := by omega
      have hh : zU (zx mM) a1 a2 ((p + 1 - k) * 49 + k) := by
        unfold zU
        rw [e1, e2]
        refine ⟨kc, by omega, (zp_sh hx (by omega) (by omega)).mp k1.2.2.1, fun o o0 o1 ho => ?_⟩
        refine k2 (o - a1) (by omega) (by omega) ((zs_sh hx (by omega) (by omega) (by omega) (by omega)).mpr ?_)
        rw [show a1 + (o - a1) = o by omega]
        exact ho
      exact ⟨(p + 1 - k) * 49 + k, by omega, by omega, hh, hh, by rw [e1, e2]; omega⟩
    · intro t t0 t1 hh
      obtain ⟨u1, u2⟩ := hU t t0 hh
      have v2 := hh.2.1
      have v1 := hh.1
      exact ⟨t / 49 + t % 49 - 1, by omega, by omega, ⟨t % 49, u1, u2⟩, hh, rfl⟩
    · intro p p' t _ _ _ _ _ _ e1 e2
      omega
    · intro p t t' t0 t1 t2 t3 p0 p1 e1 e2
      obtain ⟨u1, -⟩ := hU t t0 e1.1
      obtain ⟨u2, -⟩ := hU t' t2 e2.1
      rw [← e1.2] at u1
      rw [← e2.2] at u2
      have := zL_u u1 u2
      omega
  · have z5 : ¬ zI a3 = zI 2 := zne_i (by omega)
    obtain ⟨r, q1, q2⟩ := longest5 d2
    have q2 : (r = -1 ∧ m2 11 10 = 0) ∨ (0 ≤ r ∧ r < m2 11 10 ∧ (∀ v, 0 ≤ v → v < m2 11 10 → m2 14 v ≤ m2 14 r) ∧ ∀ v, 0 ≤ v → v < r → m2 14 v < m2 14 r) := q2
    rw [if_neg z5, if_neg z5, zcl_p q1]
    rcases in48 hT (i := a1) (j := a2) (a3 := a3) (K := fun y48_4 => if zI a3 = zI 0 then (some 0) else (some (-4))) (by omega) (by omega) (by omega) with ⟨e1, e2⟩ | ⟨w, p, e1, e2, e3, e4, e5, e6, e7⟩
    · rw [e2]
      have hr : r = -1 := by rcases q2 with q | q <;> omega
      by_cases c6 : a3 = 0
      · have z6 : zI a3 = zI 0 := by rw [c6]
        rw [if_pos z6, if_pos z6, if_pos (by rw [hr])]
        exact ⟨_, _, rfl, rfl, hR⟩
      · have z6 : ¬ zI a3 = zI 0 := zne_i (by omega)
        rw [if_neg z6, if_neg z6, if_pos (by rw [hr])]
        exact ⟨_, _, rfl, rfl, hR⟩
    · rw [e1]
      obtain ⟨v, v0, v1, v2, v3, v4⟩ := zNd_ex hd (p - a1).toNat (p - a1) w (by omega) e2 (by omega) ((zp_sh hx (by omega) (by omega)).mpr (by rw [show a1 + (p - a1) = p by omega]; exact e5))
      obtain ⟨y1, y2, y3, y4⟩ := zNd_Z hd v0 v1
      rcases q2 with q2 | ⟨f1, f2, f3, f4⟩
      · omega
      · obtain ⟨z1, z2, z3, z4⟩ := zNd_Z hd f1 f2
        have hp : ∀ u, 0 ≤ u → u < m2 11 10 → zp (zx mM) (a1 + (m2 18 u + 1 - m2 14 u)) (m2 14 u) := fun u u0 u1 => by
          obtain ⟨g1, g2, g3, g4⟩ := zNd_Z hd u0 u1
          exact (zp_sh hx (by omega) (by omega)).mp (hd.2.1 u u0 u1).2.2.1.2.2.1
        have hw : m2 14 r = w := by
          have k1 := f3 v v0 v1
          by_cases c : w < m2 14 r
          · exact absurd (hp r f1 f2) (e7 _ _ c (by omega) (by omega))
          · omega
        have hfr : a1 + (m2 18 r + 1 - m2 14 r) = p := by
          have k1 : ¬ a1 + (m2 18 r + 1 - m2 14 r) < p := fun c => e6 _ (by omega) c (by rw [← hw]; exact hp r f1 f2)
          have k2 : r ≤ v := by
            by_cases c : v < r
            · have := f4 v v0 c; omega
            · omega
          have k3 : m2 18 r ≤ m2 18 v := by
            by_cases c : r = v
            · rw [c]; omega
            · have := hd.2.2.1 r v f1 (by omega) v1; omega
          omega
        have n6 : ¬ zI r = zI (-1) := zne_i (by omega)
        by_cases c6 : a3 = 0
        · have z6 : zI a3 = zI 0 := by rw [c6]
          rw [if_pos z6, if_pos z6, if_neg n6, zrd_p ⟨by omega, by omega⟩, hw]
          exact ⟨_, _, rfl, rfl, hR⟩
        · have z6 : ¬ zI a3 = zI 0 := zne_i (by omega)
          have ff : FX1_firstPlace 11 r m2 = some (m2 18 r - m2 14 r + 1) := fp5 ⟨by omega, by omega⟩
          rw [if_neg z6, if_neg z6, if_neg n6, zcl_p ff, show a1 + (m2 18 r - m2 14 r + 1) = p by omega]
          exact ⟨_, _, rfl, rfl, hR⟩
end IN
