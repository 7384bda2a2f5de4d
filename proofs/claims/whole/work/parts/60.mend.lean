/-! mend, turned -/
def zmn (a b : Int) : Int := if b < a then b else a
/-- the fewest letters to put in, for the span of so many letters from i on -/
def zfl (x : Int → Int) : Nat → Int → Int
  | 0, _ => 0
  | 1, _ => 0
  | w + 2, i => if x i = x (i + w + 1) then zfl x w (i + 1) else 1 + zmn (zfl x (w + 1) (i + 1)) (zfl x (w + 1) i)
theorem zfl_s (x : Int → Int) (w : Nat) (i : Int) : zfl x (w + 2) i = if x i = x (i + w + 1) then zfl x w (i + 1) else 1 + zmn (zfl x (w + 1) (i + 1)) (zfl x (w + 1) i) := rfl
theorem zfl_b (x : Int → Int) : ∀ (w : Nat), (∀ i, 0 ≤ zfl x w i ∧ zfl x w i ≤ w) ∧ ∀ i, 0 ≤ zfl x (w + 1) i ∧ zfl x (w + 1) i ≤ w + 1 := by
  intro w
  induction w with
  | zero => exact ⟨fun i => ⟨Int.le_refl 0, Int.le_refl 0⟩, fun i => ⟨Int.le_refl 0, by show (0 : Int) ≤ 0 + 1; omega⟩⟩
  | succ w ih =>
    refine ⟨ih.2, fun i => ?_⟩
    rw [zfl_s]
    have a := ih.1 (i + 1)
    have b := ih.2 (i + 1)
    have c := ih.2 i
    by_cases e : x i = x (i + w + 1)
    · rw [if_pos e]; omega
    · rw [if_neg e]
      unfold zmn
      by_cases e2 : zfl x (w + 1) i < zfl x (w + 1) (i + 1)
      · rw [if_pos e2]; omega
      · rw [if_neg e2]; omega
theorem zfl_cg {x y : Int → Int} {n : Int} (hx : ∀ q, 0 ≤ q → q < n → x q = y q) : ∀ (w : Nat), (∀ i, 0 ≤ i → i + w ≤ n → zfl x w i = zfl y w i) ∧ ∀ i, 0 ≤ i → i + (w + 1) ≤ n → zfl x (w + 1) i = zfl y (w + 1) i := by
  intro w
  induction w with
  | zero => exact ⟨fun i _ _ => rfl, fun i _ _ => rfl⟩
  | succ w ih =>
    refine ⟨fun i i0 i1 => ih.2 i i0 (by omega), fun i i0 i1 => ?_⟩
    rw [zfl_s, zfl_s, hx i i0 (by omega), hx (i + w + 1) (by omega) (by omega), ih.1 (i + 1) (by omega) (by omega), ih.2 (i + 1) (by omega) (by omega), ih.2 i i0 (by omega)]
theorem min5 {a b : Int} (ha : zR a) (hb : zR b) : FJ9_min_7cf53 a b = some (zmn a b) := by
  unfold FJ9_min_7cf53 zmn
  by_cases c : b < a
  · rw [if_pos (zlt_i (by omega)), if_pos c]
  · rw [if_neg (znlt_i (by omega)), if_neg c]
section ME
variable {mC mM : zM}
def zfF (m m' : zM) : Prop := ∀ c : Nat, c ≠ 45 → m' c = m c
theorem fill36 {i : Int} {K : Int → Int → zM → Option (Int × zM)} (hn : 0 ≤ mC 1 9 ∧ mC 1 9 ≤ 48) (hl : ∀ q, 0 ≤ q → q < mC 1 9 → 97 ≤ mC 2 q ∧ mC 2 q ≤ 102) (i0 : 0 ≤ i) (i1 : i < mC 1 9) {m : zM} (hm : zfF mC m) (h0 : m 45 i = 0) (h1 : ∀ q, i + 1 ≤ q → q < mC 1 9 → m 45 q = zfl (mC 2) (q - i).toNat (i + 1)) : ∃ u v m', FX5_fewestFills_L36 i K zfu 0 (i + 1) m = K u v m' ∧ zfF mC m' ∧ ∀ q, i ≤ q → q < mC 1 9 → m' 45 q = zfl (mC 2) (q - i + 1).toNat i := by
  refine zlom2 (FX5_fewestFills_L36 i K) (fun r u v m1 => v + r = mC 1 9 ∧ i + 1 ≤ v ∧ zfF mC m1 ∧ (∀ q, i ≤ q → q < v → m1 45 q = zfl (mC 2) (q - i + 1).toNat i) ∧ (∀ q, v ≤ q → q < mC 1 9 → m1 45 q = zfl (mC 2) (q - i).toNat (i + 1)) ∧ u = zfl (mC 2) (v - 1 - i).toNat (i + 1)) (fun z => ∃ u v m', z = K u v m' ∧ zfF mC m' ∧ ∀ q, i ≤ q → q < mC 1 9 → m' 45 q = zfl (mC 2) (q - i + 1).toNat i) ?_ ?_ (mC 1 9 - (i + 1)).toNat zfu 0 (i + 1) m ⟨by omega, by omega, hm, fun q q0 q1 => ?_, h1, ?_⟩ (by show _ < 4000; omega)
  · intro f r u v m1 ⟨j1, j2, j3, j4, j5, j6⟩
    obtain ⟨w, hw⟩ : ∃ w : Nat, v = i + w + 1 := ⟨(v - i - 1).toNat, by omega⟩
    have k1 : m1 45 v = zfl (mC 2) (w + 1) (i + 1) := by rw [j5 v (by omega) (by omega), show (v - i).toNat = w + 1 by omega]
    have k2 : m1 45 (v - 1) = zfl (mC 2) (w + 1) i := by rw [j4 (v - 1) (by omega) (by omega), show (v - 1 - i + 1).toNat = w + 1 by omega]
    have k3 : u = zfl (mC 2) w (i + 1) := by rw [j6, show (v - 1 - i).toNat = w by omega]
    have b1 := (zfl_b (mC 2) (w + 1)).1 (i + 1)
    have b2 := (zfl_b (mC 2) (w + 1)).1 i
    have b3 := (zfl_b (mC 2) w).1 (i + 1)
    have l1 := hl i i0 i1
    have l2 := hl v (by omega) (by omega)
    have hgo : ∀ val : Int, val = zfl (mC 2) (w + 2) i → (v + 1 + r = mC 1 9 ∧ i + 1 ≤ v + 1 ∧ zfF mC (zup m1 45 v val) ∧ (∀ q, i ≤ q → q < v + 1 → zup m1 45 v val 45 q = zfl (mC 2) (q - i + 1).toNat i) ∧ (∀ q, v + 1 ≤ q → q < mC 1 9 → zup m1 45 v val 45 q = zfl (mC 2) (q - i).toNat (i + 1)) ∧ m1 45 v = zfl (mC 2) (v + 1 - 1 - i).toNat (i + 1)) := fun val hval => by
      refine ⟨by omega, by omega, fun c hc => by rw [zup_o _ _ _ hc, j3 c hc], fun q q0 q1 => ?_, fun q q0 q1 => ?_, by rw [k1, show (v + 1 - 1 - i).toNat = w + 1 by omega]⟩
      · rw [zup_c]
        by_cases e : q = v
        · subst e; rw [zuf_e, hval, show (q - i + 1).toNat = w + 2 by omega]
        · rw [zuf_d _ _ e]; exact j4 q q0 (by omega)
      · rw [zup_c, zuf_d _ _ (by omega)]; exact j5 q (by omega) q1
    rw [FX5_fewestFills_L36_s]
    unfold FX5_fewestFills_L36_B
    rw [j3 1 (by omega), if_pos (zlt_i (by omega)), zrd_p ⟨by omega, by omega⟩, zrd_p ⟨by omega, by omega⟩, zrd_p ⟨by omega, by omega⟩, j3 2 (by omega)]
    by_cases c : mC 2 i = mC 2 v
    · rw [if_pos (by rw [c]), zwr_p ⟨by omega, by omega⟩]
      refine Or.inr ⟨m1 45 v, v + 1, _, rfl, hgo u ?_⟩
      rw [zfl_s, if_pos (by rw [c, hw]), k3]
    · rw [if_neg (zne_i ⟨by omega, by omega, by omega, by omega, c⟩), zrd_p ⟨by omega, by omega⟩, k2, zcl_p (min5 (by rw [k1]; omega) (by omega)), zwr_p ⟨by omega, by omega⟩]
      refine Or.inr ⟨m1 45 v, v + 1, _, rfl, hgo _ ?_⟩
      rw [zfl_s, if_neg (by rw [← hw]; exact c), k1]
  · intro f u v m1 ⟨j1, j2, j3, j4, j5, j6⟩
    rw [FX5_fewestFills_L36_s]
    unfold FX5_fewestFills_L36_B
    rw [j3 1 (by omega), if_neg (znlt_i (by omega))]
    exact ⟨u, v, m1, rfl, j3, fun q q0 q1 => j4 q q0 (by omega)⟩
  · rw [show q = i by omega, h0, show (i - i + 1).toNat = 1 by omega]; rfl
  · rw [show (i + 1 - 1 - i).toNat = 0 by omega]; rfl
theorem fills5 (hn : 0 ≤ mC 1 9 ∧ mC 1 9 ≤ 48) (hl : ∀ q, 0 ≤ q → q < mC 1 9 → 97 ≤ mC 2 q ∧ mC 2 q ≤ 102) : ∃ m', FX5_fewestFills mC = some (zfl (mC 2) (mC 1 9).toNat 0, m') ∧ zfF mC m' := by
  unfold FX5_fewestFills
  refine zlom (FX5_fewestFills_L18 (fun y18_2 m18_ => if zI (m18_ 1 9) = zI 0 then (some (0, m18_)) else (zrd m18_ 45 ((m18_ 1 9) - 1) 48 fun x12 => some (x12, m18_)))) (fun r v m1 => v = r - 1 ∧ v ≤ mC 1 9 - 1 ∧ zfF mC m1 ∧ ∀ q, v + 1 ≤ q → q < mC 1 9 → m1 45 q = zfl (mC 2) (q - v).toNat (v + 1)) (fun z => ∃ m', z = some (zfl (mC 2) (mC 1 9).toNat 0, m') ∧ zfF mC m') ?_ ?_ (mC 1 9).toNat zfu (mC 1 9 - 1) mC ⟨by omega, by omega, fun _ _ => rfl, fun q q0 q1 => by omega⟩ (by show _ < 4000; omega)
  · intro f r v m1 ⟨i1, i2, i3, i4⟩
    rw [FX5_fewestFills_L18_s]
    unfold FX5_fewestFills_L18_B
    rw [if_neg (znlt_i (by omega)), zwr_p ⟨by omega, by omega⟩]
    obtain ⟨u, w, m', k1, k2, k3⟩ := fill36 (mC := mC) (i := v) (m := zup m1 45 v 0) (K := fun y36_3 y36_4 m36_ => FX5_fewestFills_L18 (fun y18_2 m18_ => if zI (m18_ 1 9) = zI 0 then (some (0, m18_)) else (zrd m18_ 45 ((m18_ 1 9) - 1) 48 fun x12 => some (x12, m18_))) f (v + -1) m36_) hn hl (by omega) (by omega) (fun c hc => by rw [zup_o _ _ _ hc, i3 c hc]) (by rw [zup_c, zuf_e]) (fun q q0 q1 => by rw [zup_c, zuf_d _ _ (by omega)]; exact i4 q (by omega) q1)
    rw [k1]
    refine Or.inr ⟨v + -1, m', rfl, by omega, by omega, k2, fun q q0 q1 => ?_⟩
    rw [k3 q (by omega) q1, show (q - (v + -1)).toNat = (q - v + 1).toNat by omega, show v + -1 + 1 = v by omega]
  · intro f v m1 ⟨i1, i2, i3, i4⟩
    rw [FX5_fewestFills_L18_s]
    unfold FX5_fewestFills_L18_B
    rw [if_pos (zlt_i (by omega))]
    dsimp only
    rw [i3 1 (by omega)]
    by_cases c : mC 1 9 = 0
    · rw [if_pos (by rw [c]), c]
      exact ⟨m1, rfl, i3⟩
    · rw [if_neg (zne_i (by omega)), zrd_p ⟨by omega, by omega⟩, i4 (mC 1 9 - 1) (by omega) (by omega), show (mC 1 9 - 1 - v).toNat = (mC 1 9).toNat by omega, show v + 1 = 0 by omega]
      exact ⟨m1, rfl, i3⟩
def zfM (m m' : zM) : Prop := ∀ c : Nat, c ≠ 12 → c ≠ 14 → m' c = m c
theorem fill6 (hT : zTm mM) : ∃ m', FX6_fill mM = some (zfl (zx mM) (mM 0 0).toNat 0, m') ∧ zfM mM m' := by
  obtain ⟨n0, n1, n2⟩ := hT
  unfold FX6_fill
  have hz : ∀ K : Int → zM → Option (Int × zM), ∃ m1, FX6_fill_L2 K zfu 0 mM = K 48 m1 ∧ zfM mM m1 ∧ ∀ q, 0 ≤ q → q < 48 → m1 12 q = 0 ∧ m1 14 q = 0 := fun K => by
    refine zlom (FX6_fill_L2 K) (fun r v m1 => v + r = 48 ∧ 0 ≤ v ∧ zfM mM m1 ∧ ∀ q, 0 ≤ q → q < v → m1 12 q = 0 ∧ m1 14 q = 0) (fun z => ∃ m1, z = K 48 m1 ∧ zfM mM m1 ∧ ∀ q, 0 ≤ q → q < 48 → m1 12 q = 0 ∧ m1 14 q = 0) ?_ ?_ 48 zfu 0 mM ⟨by omega, by omega, fun _ _ _ => rfl, fun q q0 q1 => by omega⟩ (by show _ < 4000; omega)
    · intro f r v m1 ⟨i1, i2, i3, i4⟩
      rw [FX6_fill_L2_s]
      unfold FX6_fill_L2_B
      rw [if_pos (zlt_i (by omega)), zwr_p ⟨by omega, by omega⟩, zwr_p ⟨by omega, by omega⟩]
      refine Or.inr ⟨v + 1, _, rfl, by omega, by omega, fun c c1 c2 => by rw [zup_o _ _ _ c2, zup_o _ _ _ c1, i3 c c1 c2], fun q q0 q1 => ?_⟩
      rw [zup_o _ _ _ (show (12 : Nat) ≠ 14 by omega), zup_c, zup_c, zup_o _ _ _ (show (14 : Nat) ≠ 12 by omega)]
      by_cases e : q = v
      · subst e; rw [zuf_e, zuf_e]; exact ⟨rfl, rfl⟩
      · rw [zuf_d _ _ e, zuf_d _ _ e]; exact i4 q q0 (by omega)
    · intro f v m1 ⟨i1, i2, i3, i4⟩
      rw [FX6_fill_L2_s]
      unfold FX6_fill_L2_B
      rw [if_neg (znlt_i (by omega)), show v = 48 by omega]
      exact ⟨m1, rfl, i3, fun q q0 q1 => i4 q q0 (by omega)⟩
  obtain ⟨m1, z1, z2, z3⟩ := hz (fun y2_1 m2_ => FX6_fill_L32 (fun y32_2 m32_ => if zI (m32_ 0 0) = zI 0 then (some (0, m32_)) else (zrd m32_ 12 0 49 fun x19 => some (x19, m32_))) zfu 2 m2_)
  rw [z1]
  refine zlom (FX6_fill_L32 (fun y32_2 m32_ => if zI (m32_ 0 0) = zI 0 then (some (0, m32_)) else (zrd m32_ 12 0 49 fun x19 => some (x19, m32_)))) (fun r v m2 => 2 ≤ v ∧ v + r = 50 ∧ (v ≤ mM 0 0 + 1 ∨ v = 2) ∧ zfM mM m2 ∧ (∀ q, 0 ≤ q → q + (v - 1) ≤ mM 0 0 → m2 12 q = zfl (zx mM) (v - 1).toNat q) ∧ ∀ q, 0 ≤ q → q + (v - 1) ≤ mM 0 0 → m2 14 q = zfl (zx mM) (v - 2).toNat q) (fun z => ∃ m', z = some (zfl (zx mM) (mM 0 0).toNat 0, m') ∧ zfM mM m') ?_ ?_ 48 zfu 2 m1 ⟨by omega, by omega, by omega, z2, fun q q0 q1 => by rw [(z3 q q0 (by omega)).1]; rfl, fun q q0 q1 => by rw [(z3 q q0 (by omega)).2]; rfl⟩ (by show _ < 4000; omega)
  · intro f r v m2 ⟨i1, i2, i3, i4, i5, i6⟩
    rw [FX6_fill_L32_s]
    unfold FX6_fill_L32_B
    rw [i4 0 (by omega) (by omega)]
    by_cases c : mM 0 0 < v
    · rw [if_pos (zlt_i (by omega))]
      dsimp only
      rw [i4 0 (by omega) (by omega)]
      refine Or.inl ?_
      by_cases c2 : mM 0 0 = 0
      · rw [if_pos (by rw [c2]), c2]
        exact ⟨m2, rfl, i4⟩
      · rw [if_neg (zne_i (by omega)), zrd_p ⟨by omega, by omega⟩, i5 0 (by omega) (by omega), show (v - 1).toNat = (mM 0 0).toNat by omega]
        exact ⟨m2, rfl, i4⟩
    · rw [if_neg (znlt_i (by omega))]
      obtain ⟨w, hw⟩ : ∃ w : Nat, v = w + 2 := ⟨(v - 2).toNat, by omega⟩
      have key : ∃ m3, FX6_fill_L42 v (fun y42_3 m42_ => FX6_fill_L32 (fun y32_2 m32_ => if zI (m32_ 0 0) = zI 0 then (some (0, m32_)) else (zrd m32_ 12 0 49 fun x19 => some (x19, m32_))) f (v + 1) m42_) zfu 0 m2 = FX6_fill_L32 (fun y32_2 m32_ => if zI (m32_ 0 0) = zI 0 then (some (0, m32_)) else (zrd m32_ 12 0 49 fun x19 => some (x19, m32_))) f (v + 1) m3 ∧ zfM mM m3 ∧ ∀ q, 0 ≤ q → q + v ≤ mM 0 0 → m3 12 q = zfl (zx mM) (w + 2) q ∧ m3 14 q = zfl (zx mM) (w + 1) q := by
        refine zlom (FX6_fill_L42 v (fun y42_3 m42_ => FX6_fill_L32 (fun y32_2 m32_ => if zI (m32_ 0 0) = zI 0 then (some (0, m32_)) else (zrd m32_ 12 0 49 fun x19 => some (x19, m32_))) f (v + 1) m42_)) (fun r i m3 => i + r = mM 0 0 - v + 1 ∧ 0 ≤ i ∧ zfM mM m3 ∧ (∀ q, 0 ≤ q → q < i → m3 12 q = zfl (zx mM) (w + 2) q ∧ m3 14 q = zfl (zx mM) (w + 1) q) ∧ ∀ q, i ≤ q → q + (v - 1) ≤ mM 0 0 → m3 12 q = zfl (zx mM) (w + 1) q ∧ m3 14 q = zfl (zx mM) w q) (fun z => ∃ m3, z = FX6_fill_L32 (fun y32_2 m32_ => if zI (m32_ 0 0) = zI 0 then (some (0, m32_)) else (zrd m32_ 12 0 49 fun x19 => some (x19, m32_))) f (v + 1) m3 ∧ zfM mM m3 ∧ ∀ q, 0 ≤ q → q + v ≤ mM 0 0 → m3 12 q = zfl (zx mM) (w + 2) q ∧ m3 14 q = zfl (zx mM) (w + 1) q) ?_ ?_ (mM 0 0 - v + 1).toNat zfu 0 m2 ⟨by omega, by omega, i4, fun q q0 q1 => by omega, fun q q0 q1 => ⟨by rw [i5 q q0 q1, show (v - 1).toNat = w + 1 by omega], by rw [i6 q q0 q1, show (v - 2).toNat = w by omega]⟩⟩ (by show _ < 4000; omega)
        · intro f' r' i m3 ⟨j1, j2, j3, j4, j5⟩
          have k1 := (j5 i (by omega) (by omega)).1
          obtain ⟨k2, k3⟩ := j5 (i + 1) (by omega) (by omega)
          have b1 := (zfl_b (zx mM) (w + 1)).1 i
          have b2 := (zfl_b (zx mM) (w + 1)).1 (i + 1)
          have l1 := n2 i j2 (by omega)
          have l2 := n2 (i + v - 1) (by omega) (by omega)
          have e1 : m3 1 = mM 1 := j3 1 (by omega) (by omega)
          have hgo : ∀ val : Int, val = zfl (zx mM) (w + 2) i → (i + 1 + r' = mM 0 0 - v + 1 ∧ 0 ≤ i + 1 ∧ zfM mM (zup (zup m3 14 i (m3 12 i)) 12 i val) ∧ (∀ q, 0 ≤ q → q < i + 1 → zup (zup m3 14 i (m3 12 i)) 12 i val 12 q = zfl (zx mM) (w + 2) q ∧ zup (zup m3 14 i (m3 12 i)) 12 i val 14 q = zfl (zx mM) (w + 1) q) ∧ ∀ q, i + 1 ≤ q → q + (v - 1) ≤ mM 0 0 → zup (zup m3 14 i (m3 12 i)) 12 i val 12 q = zfl (zx mM) (w + 1) q ∧ zup (zup m3 14 i (m3 12 i)) 12 i val 14 q = zfl (zx mM) w q) := fun val hval => by
            have f12 : zup (zup m3 14 i (m3 12 i)) 12 i val 12 = zuf (m3 12) i val := by rw [zup_c, zup_o _ _ _ (by omega)]
            have f14 : zup (zup m3 14 i (m3 12 i)) 12 i val 14 = zuf (m3 14) i (m3 12 i) := by rw [zup_o _ _ _ (by omega), zup_c]
            rw [f12, f14]
            refine ⟨by omega, by omega, fun c c1 c2 => by rw [zup_o _ _ _ c1, zup_o _ _ _ c2, j3 c c1 c2], fun q q0 q1 => ?_, fun q q0 q1 => ?_⟩
            · by_cases e : q = i
              · subst e; rw [zuf_e, zuf_e]; exact ⟨hval, k1⟩
              · rw [zuf_d _ _ e, zuf_d _ _ e]; exact j4 q q0 (by omega)
            · rw [zuf_d _ _ (by omega), zuf_d _ _ (by omega)]; exact j5 q (by omega) q1
          have sv := zfl_s (zx mM) w i
          rw [show i + (w : Int) + 1 = i + v - 1 by omega] at sv
          refine Or.inr ⟨i + 1, zup (zup m3 14 i (m3 12 i)) 12 i (zfl (zx mM) (w + 2) i), ?_, hgo _ rfl⟩
          rw [FX6_fill_L42_s]
          unfold FX6_fill_L42_B
          rw [j3 0 (by omega) (by omega), if_neg (znlt_i (by omega)), zrd_p ⟨by omega, by omega⟩, zrd_p ⟨by omega, by omega⟩, e1, zjn_p]
          simp only [zjn_p]
          by_cases c4 : mM 1 i = mM 1 (i + v - 1)
          · have hx4 : zx mM i = zx mM (i + v - 1) := by unfold zx; rw [c4]
            rw [if_pos hx4] at sv
            rw [if_pos (by rw [c4]), zrd_p ⟨by omega, by omega⟩, zrd_p ⟨by omega, by omega⟩]
            by_cases c3 : m3 12 i < m3 12 (i + 1)
            · rw [if_pos (zlt_i (by omega)), zrd_p ⟨by omega, by omega⟩, if_neg zI_ne10, zrd_p ⟨by omega, by omega⟩, k3, zrd_p ⟨by omega, by omega⟩, zwr_p ⟨by omega, by omega⟩, zwr_p ⟨by omega, by omega⟩, sv]
            · rw [if_neg (znlt_i (by omega)), zrd_p ⟨by omega, by omega⟩, if_neg zI_ne10, zrd_p ⟨by omega, by omega⟩, k3, zrd_p ⟨by omega, by omega⟩, zwr_p ⟨by omega, by omega⟩, zwr_p ⟨by omega, by omega⟩, sv]
          · have hx4 : ¬ zx mM i = zx mM (i + v - 1) := by unfold zx; omega
            rw [if_neg hx4] at sv
            unfold zmn at sv
            rw [if_neg (zne_i ⟨by omega, by omega, by omega, by omega, c4⟩), zrd_p ⟨by omega, by omega⟩, zrd_p ⟨by omega, by omega⟩]
            by_cases c3 : m3 12 i < m3 12 (i + 1)
            · rw [if_pos (by omega)] at sv
              rw [if_pos (zlt_i (by omega)), zrd_p ⟨by omega, by omega⟩, if_pos True.intro, zrd_p ⟨by omega, by omega⟩, zwr_p ⟨by omega, by omega⟩, zwr_p ⟨by omega, by omega⟩, sv, k1, show zfl (zx mM) (w + 1) i + 1 = 1 + zfl (zx mM) (w + 1) i by omega]
            · rw [if_neg (by omega)] at sv
              rw [if_neg (znlt_i (by omega)), zrd_p ⟨by omega, by omega⟩, if_pos True.intro, zrd_p ⟨by omega, by omega⟩, zwr_p ⟨by omega, by omega⟩, zwr_p ⟨by omega, by omega⟩, sv, k2, show zfl (zx mM) (w + 1) (i + 1) + 1 = 1 + zfl (zx mM) (w + 1) (i + 1) by omega]
        · intro f' i m3 ⟨j1, j2, j3, j4, j5⟩
          rw [FX6_fill_L42_s]
          unfold FX6_fill_L42_B
          rw [j3 0 (by omega) (by omega), if_pos (zlt_i (by omega))]
          exact ⟨m3, rfl, j3, fun q q0 q1 => j4 q q0 (by omega)⟩
      obtain ⟨m3, k1, k2, k3⟩ := key
      rw [k1]
      refine Or.inr ⟨v + 1, m3, rfl, by omega, by omega, by omega, k2, fun q q0 q1 => ?_, fun q q0 q1 => ?_⟩
      · rw [(k3 q q0 (by omega)).1, show (v + 1 - 1).toNat = w + 2 by omega]
      · rw [(k3 q q0 (by omega)).2, show (v + 1 - 2).toNat = w + 1 by omega]
  · intro f v m2 ⟨i1, i2, i3, i4, i5, i6⟩
    omega
end ME
