/-! small words on comparisons; Arrays.fill; a call into a world of its own -/
theorem zlt_i {a b : Int} (h : -2147483648 ≤ a ∧ b < 2147483648 ∧ a < b) : zI a < zI b := by
  rw [zI_lt ⟨h.1, by omega⟩ ⟨by omega, h.2.1⟩]; exact h.2.2
theorem znlt_i {a b : Int} (h : -2147483648 ≤ b ∧ a < 2147483648 ∧ b ≤ a) : ¬ zI a < zI b := by
  rw [zI_lt ⟨by omega, h.2.1⟩ ⟨h.1, by omega⟩]; omega
theorem zne_i {a b : Int} (h : -2147483648 ≤ a ∧ a < 2147483648 ∧ -2147483648 ≤ b ∧ b < 2147483648 ∧ a ≠ b) : ¬ zI a = zI b := by
  rw [zI_eq ⟨h.1, h.2.1⟩ ⟨h.2.2.1, h.2.2.2.1⟩]; exact h.2.2.2.2
theorem zuc_same (m : zM) (c : Nat) : zuc m c (m c) = m := by
  funext c'
  by_cases h : c' = c
  · subst h; simp [zuc]
  · simp [zuc, h]
theorem zuc_zuc (m : zM) (c : Nat) (f g : Int → Int) : zuc (zuc m c f) c g = zuc m c g := by
  funext c'
  by_cases h : c' = c <;> simp [zuc, h]
theorem zuc_at (m : zM) (c : Nat) (f : Int → Int) : zuc m c f c = f := by simp [zuc]
theorem zuc_ne (m : zM) {c c' : Nat} (f : Int → Int) (h : c' ≠ c) : zuc m c f c' = m c' := by simp [zuc, h]
section ZQ
variable {α β : Type}
theorem zrd_p {m : zM} {c : Nat} {i n : Int} {k : Int → Option α} (h : 0 ≤ i ∧ i < n) : zrd m c i n k = k (m c i) := if_pos h
theorem zwr_p {m : zM} {c : Nat} {i v n : Int} {k : zM → Option α} (h : 0 ≤ i ∧ i < n) : zwr m c i v n k = k (zup m c i v) := if_pos h
theorem zpf_p {m : zM} {c : Nat} {i v : Int} {k : zM → Option α} : zpf m c i v k = k (zup m c i v) := rfl
theorem zix_p {i n : Int} {k : Option α} (h : 0 ≤ i ∧ i < n) : zix i n k = k := if_pos h
theorem zgd_p {g : Prop} [Decidable g] {k : Option α} (h : g) : zgd g k = k := if_pos h
theorem zcl_p {x : Option α} {a : α} {k : α → Option β} (h : x = some a) : zcl x k = k a := by rw [h]; rfl
theorem zcl2_p {x : Option (Int × zM)} {a : Int} {m : zM} {k : Int → zM → Option β} (h : x = some (a, m)) : zcl2 x k = k a m := by rw [h]; rfl
theorem zcpy_p {m : zM} {c0 c1 : Nat} {sp dp n n0 n1 : Int} {k : zM → Option α} (h : 0 ≤ sp ∧ 0 ≤ dp ∧ 0 ≤ n ∧ sp + n ≤ n0 ∧ dp + n ≤ n1) : zcpy m c0 c1 sp dp n n0 n1 k = k (zuc m c1 (zcp (m c0) (m c1) sp dp n)) := if_pos h
theorem zjn_p {γ : Type} {t : γ} {b : γ → Option α} : zjn t b = b t := rfl
end ZQ
theorem fill_L (c n : Nat) (v : Int) (K : Int → zM → Option zM) (hn : n ≤ 2000) : ∀ (r f : Nat) (i : Int) (m : zM), 0 ≤ i → i + r = n → r < f → FJ7_fill_53178_L5 c n v n K f i m = K n (zuc m c (fun j => if i ≤ j ∧ j < n then v else m c j)) := by
  intro r
  induction r with
  | zero =>
    intro f i m h0 h1 h2
    obtain ⟨f, rfl⟩ : ∃ g, f = g + 1 := ⟨f - 1, by omega⟩
    show FJ7_fill_53178_L5_B c n v n K _ i m = _
    unfold FJ7_fill_53178_L5_B
    rw [if_neg (znlt_i (by omega))]
    have e : i = n := by omega
    subst e
    congr 1
    have e2 : (fun j => if (n : Int) ≤ j ∧ j < n then v else m c j) = m c := by
      funext j
      rw [if_neg (by omega)]
    rw [e2, zuc_same]
  | succ r ih =>
    intro f i m h0 h1 h2
    obtain ⟨f, rfl⟩ : ∃ g, f = g + 1 := ⟨f - 1, by omega⟩
    show FJ7_fill_53178_L5_B c n v n K (FJ7_fill_53178_L5 c n v n K f) i m = _
    unfold FJ7_fill_53178_L5_B
    rw [if_pos (zlt_i (by omega))]
    rw [zwr_p ⟨h0, by omega⟩, ih f (i + 1) _ (by omega) (by omega) (by omega)]
    congr 1
    rw [zup, zuc_zuc, zuc_at]
    congr 1
    funext j
    unfold zuf
    by_cases h : j = i
    · subst h
      rw [if_neg (by omega), if_pos rfl, if_pos (by omega)]
    · rw [if_neg h]
      by_cases h3 : i + 1 ≤ j ∧ j < n
      · rw [if_pos h3, if_pos (by omega)]
      · rw [if_neg h3, if_neg (by omega)]
theorem fill_eq (c n : Nat) (v : Int) (m : zM) (hn : n ≤ 2000) : FJ7_fill_53178 c n v m = some (zuc m c (fun j => if 0 ≤ j ∧ j < n then v else m c j)) := by
  unfold FJ7_fill_53178
  rw [fill_L c n v _ hn n zfu 0 m (by omega) (by omega) (by show n < 4000; omega)]
theorem fillL_L (c n : Nat) (v : Int) (K : Int → zM → Option zM) (hn : n ≤ 2000) : ∀ (r f : Nat) (i : Int) (m : zM), 0 ≤ i → i + r = n → r < f → FJ7_fill_d0a16_L6 c n v n K f i m = K n (zuc m c (fun j => if i ≤ j ∧ j < n then v else m c j)) := by
  intro r
  induction r with
  | zero =>
    intro f i m h0 h1 h2
    obtain ⟨f, rfl⟩ : ∃ g, f = g + 1 := ⟨f - 1, by omega⟩
    show FJ7_fill_d0a16_L6_B c n v n K _ i m = _
    unfold FJ7_fill_d0a16_L6_B
    rw [if_neg (znlt_i (by omega))]
    have e : i = n := by omega
    subst e
    congr 1
    have e2 : (fun j => if (n : Int) ≤ j ∧ j < n then v else m c j) = m c := by
      funext j
      rw [if_neg (by omega)]
    rw [e2, zuc_same]
  | succ r ih =>
    intro f i m h0 h1 h2
    obtain ⟨f, rfl⟩ : ∃ g, f = g + 1 := ⟨f - 1, by omega⟩
    show FJ7_fill_d0a16_L6_B c n v n K (FJ7_fill_d0a16_L6 c n v n K f) i m = _
    unfold FJ7_fill_d0a16_L6_B
    rw [if_pos (zlt_i (by omega))]
    rw [zwr_p ⟨h0, by omega⟩, ih f (i + 1) _ (by omega) (by omega) (by omega)]
    congr 1
    rw [zup, zuc_zuc, zuc_at]
    congr 1
    funext j
    unfold zuf
    by_cases h : j = i
    · subst h
      rw [if_neg (by omega), if_pos rfl, if_pos (by omega)]
    · rw [if_neg h]
      by_cases h3 : i + 1 ≤ j ∧ j < n
      · rw [if_pos h3, if_pos (by omega)]
      · rw [if_neg h3, if_neg (by omega)]
theorem fillL_eq (c n : Nat) (v : Int) (m : zM) (hn : n ≤ 2000) : FJ7_fill_d0a16 c n v m = some (zuc m c (fun j => if 0 ≤ j ∧ j < n then v else m c j)) := by
  unfold FJ7_fill_d0a16
  rw [fillL_L c n v _ hn n zfu 0 m (by omega) (by omega) (by show n < 4000; omega)]
theorem zz_goes {p : Program} {l : Launch} {e : Env} {R : Room} {s : State} {mI : MethodId} {args : Array Value} {below : List Frame} {meth : Method} {c : Code} {H : Heap} {locs : List Loc} {Q : State → Prop} {pc : Nat} {ls : Array Slot} {st0 rest : List Value} {G : zG} {v1 : Option Value} {m1 : zM} {a : Array Value} {A : Nat → Prop} {ck sk : Nat}
    (hr : va_Run p l e R s mI args below meth c H locs ck sk 0 0 (F0 mI pc ls st0) rest (zQ G v1 m1 a) (zA G)) (hS : va_S A s.heap H locs) (hAA : ∀ q, zA G q → A q)
    (kk : ∀ (H1 : Heap) (locs1 : List Loc), zHold G m1 H1 → H.size ≤ H1.size → (∀ q : Nat, q < H.size → ¬ zA G q → H1[q]? = H[q]?) → va_S A s.heap H1 locs1 → W p l e R s mI args below meth c H1 locs1 ck sk Q (F0 mI (pc + 3) ls (v1.toList ++ rest))) : W p l e R s mI args below meth c H locs ck sk Q (F0 mI pc ls st0) := by
  intro T hT X
  obtain ⟨v, st₀, t, T', L, h0, X', hL, e1, e2, ⟨hv, hh, hz, hk⟩, st⟩ := hr T hT X
  cases hv
  rw [h0] at hz hk
  obtain ⟨t2, a1, b1⟩ := kk T'.heap (locs ++ L) (by rw [e1]; exact hh) (by rw [e1]; exact hz) (fun q h1 h2 => by rw [e1]; exact hk q h1 h2)
    ⟨Nat.le_trans hS.1 (by rw [e1]; exact hz), fun q h1 h2 => by rw [e1, hk q (Nat.lt_of_lt_of_le h1 hS.1) (fun z => h2 (hAA q z))]; exact hS.2.1 q h1 h2, fun q hq => by
      rcases List.mem_append.mp hq with h | h
      · exact hS.2.2 q h
      · exact hAA _ (hL q h)⟩ T' rfl X'
  exact ⟨t2, st t2 a1, b1⟩
section YF
variable {X : yXT} {l : Launch} {R : Room} {D : va_G} {ca : Nat → ClassId} {A : Nat → Prop} {Qc : Array Value → State → Outcome → State → Prop} {mc ms : Nat} {cc : ByteArray} {nL : Nat} {own : String}
variable {ck sk : Nat} {ws ws' : va_W} {pc : Nat} {lv lv' : List (Nat × Value)} {st : List Value}
abbrev yG1 (D : va_G) (ca : Nat → ClassId) (a n : Nat) : zG := (D, vwCl, ztys ca, 1, fun _ f => .inl (ca 0, n, .inl (fun k => zI (f (k : Int)))), fun _ => a)
theorem y_fill (hX : yC X l R D ca A Qc mc ms cc nL own) {q0 a n ix : Nat} {x : Int32} {f : Nat → Int32} (he : ws[q0]? = some (a, .inl (ca 0, n, .inl f))) (hn : n ≤ 1000) (hw : zMs own ix yJ7_fill_53178 cJ7_fill_53178 4 none 2) (hR : 1 ≤ R.frames ∧ 23 ≤ R.locals) (hR2 : ck ≤ R.cells ∧ sk ≤ R.slots) (hsum : (st.map fun v => v.category).sum ≤ 8) (hws : ws.set q0 (a, .inl (ca 0, n, .inl (fun k => if k < n then x else f k))) = ws') (hd : decode cc pc = .ok (.invokestatic ix, 3)) (k : yV X nL ck sk ws' (pc + 3) lv st) : yV X nL ck sk ws pc lv (.int x :: .ref a :: st) := by
  obtain ⟨p, l, e, R, s, mI, args, below, meth, cd, D, ca, A, Qc, mc, ms⟩ := X
  obtain ⟨rfl, rfl, rfl, rfl, rfl, rfl, rfl, rfl, hx, hb, hml, hown, hts, hK, hN, hA, hr, hlk, hin2⟩ := hX
  obtain ⟨⟨w1, w2, w4, w5⟩, hd1, hd2, hd3⟩ := hw
  subst hws
  intro H locs ls h1 h2 h3 h4
  have hG1 : zGok (yG1 D ca a n) := fun c c' hc hc' _ => by
    have h1 : c < 1 := hc
    have h2 : c' < 1 := hc'
    omega
  have hM := wJ7_fill_53178 (l := l) (G := yG1 D ca a n) hG1 (c0 := 0) (n0 := n) ⟨Nat.zero_lt_one, by omega, ca 0, rfl, fun _ => rfl⟩ (a1 := x.toInt) (fill_eq 0 n x.toInt (fun _ i => (f i.toNat).toInt) (by omega))
  rw [zI_self] at hM
  have hH : zHold (yG1 D ca a n) (fun _ i => (f i.toNat).toInt) H := by
    intro k q hk
    obtain ⟨hk1, rfl⟩ := zws_at hk
    have hk1 : k < 1 := hk1
    have : k = 0 := by omega
    subst this
    have h9 := h1 _ _ he
    have e2 : (fun k : Nat => zI ((f (k : Int).toNat).toInt)) = f := by funext k; rw [zI_self, Int.toNat_natCast]
    show va_at D vwCl (a, .inl (ca 0, n, .inl (fun k : Nat => zI ((f (k : Int).toNat).toInt)))) H
    rw [e2]
    exact h9
  have hAa : A a := h2.2 _ _ he
  refine zz_goes (G := yG1 D ca a n) (va_runS (Ts := zW) (As := [.ref a, .int x]) (rest := st) ⟨hx, hb, hml, hown, hts⟩ hM ⟨callB_of 2 hts (zW_code w5) rfl rfl rfl (hts _ w4) (hts _ w1) ⟨hd1, hd2, hd3⟩ ⟨hR.1, hR.2⟩, hts _ w2⟩ ⟨zPc_blind, fun U hU hW => ⟨rfl, by rw [hU]; exact hH, va_K.moved hW.alike hK, va_Nw.warmM hW hN.1⟩⟩ rfl rfl h4.1 rfl (lv_room hsum) hd ⟨hR2.1, hR2.2⟩) h3 (fun q hq => by obtain ⟨_, _, hq⟩ := hq; rw [← hq]; exact hAa) (fun H1 locs1 hh hz hk hS => k H1 locs1 ls ?_ (h2.set he) hS h4)
  intro k2 q2 hk2
  by_cases hkq : k2 = q0
  · subst hkq
    have hl := (List.getElem?_eq_some_iff.mp he).1
    rw [List.getElem?_set_self hl] at hk2
    cases hk2
    have h9 := hh 0 (a, .inl (ca 0, n, .inl (fun k : Nat => zI (zuc (fun _ i => (f i.toNat).toInt) 0 (fun j => if 0 ≤ j ∧ j < (n : Int) then x.toInt else (f j.toNat).toInt) 0 (k : Int))))) rfl
    have e2 : (fun k : Nat => zI (zuc (fun _ i => (f i.toNat).toInt) 0 (fun j => if 0 ≤ j ∧ j < (n : Int) then x.toInt else (f j.toNat).toInt) 0 (k : Int))) = fun k : Nat => if k < n then x else f k := by
      funext k
      rw [zuc_at]
      by_cases hk : k < n
      · rw [if_pos (by omega), if_pos hk, zI_self]
      · rw [if_neg (by omega), if_neg hk, zI_self, Int.toNat_natCast]
    rw [e2] at h9
    exact h9
  · rw [List.getElem?_set_ne (Ne.symm hkq)] at hk2
    have h9 := h1 _ _ hk2
    refine h9.kept (hk q2.1 h9.lt (fun hz2 => ?_))
    obtain ⟨_, _, hz2⟩ := hz2
    exact hkq (h2.1 _ _ _ _ hk2 he hz2.symm)
end YF
