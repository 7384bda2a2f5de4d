/-! The world as one memory: cell, index, whole number. Rows of the machine over it. -/
def zW : List Cond := lw_tbl.filter goodWord
theorem zW_mem {w : Cond} (i : Nat) (h : lw_tbl[i]? = some w) (hg : goodWord w = true) : w ∈ zW := List.mem_filter.mpr ⟨List.mem_of_getElem? h, hg⟩
theorem zW_good {w : Cond} (h : w ∈ zW) : w ∈ zW ∧ ((w.onTables && w.keeps) = true ∨ ∃ ty, w = .arrayClass ty) := ⟨h, good_of_word (List.mem_filter.mp h).2⟩
/-- the classes and array classes of a world, and the one link between nest mates that a method of it takes -/
def zNest : Cond := .methodLinkNest RX4 32 yX5_isByte "MirrorNodes"
abbrev zM : Type := Nat → Int → Int
def zI (x : Int) : Int32 := Int32.ofInt x
def zJ (x : Int) : Int64 := Int64.ofInt x
abbrev zR (x : Int) : Prop := -2147483648 ≤ x ∧ x < 2147483648
theorem zI_add (a b : Int) : zI a + zI b = zI (a + b) := (Int32.ofInt_add a b).symm
theorem zI_sub (a b : Int) : zI a - zI b = zI (a - b) := (Int32.ofInt_sub a b).symm
theorem zI_mul (a b : Int) : zI a * zI b = zI (a * b) := (Int32.ofInt_mul a b).symm
theorem zJ_add (a b : Int) : zJ a + zJ b = zJ (a + b) := (Int64.ofInt_add a b).symm
theorem zJ_sub (a b : Int) : zJ a - zJ b = zJ (a - b) := (Int64.ofInt_sub a b).symm
theorem zJ_mul (a b : Int) : zJ a * zJ b = zJ (a * b) := (Int64.ofInt_mul a b).symm
theorem zI_toInt {a : Int} (h : zR a) : (zI a).toInt = a := Int32.toInt_ofInt_of_le h.1 h.2
theorem zJ_toInt {a : Int} (h1 : -9223372036854775808 ≤ a) (h2 : a < 9223372036854775808) : (zJ a).toInt = a := Int64.toInt_ofInt_of_le h1 h2
theorem zI_self (x : Int32) : zI x.toInt = x := Int32.ofInt_toInt x
theorem zJ_self (x : Int64) : zJ x.toInt = x := Int64.ofInt_toInt x
theorem zI_lt {a b : Int} (ha : zR a) (hb : zR b) : (zI a < zI b) = (a < b) := by
  rw [Int32.lt_iff_toInt_lt, zI_toInt ha, zI_toInt hb]
theorem zI_eq {a b : Int} (ha : zR a) (hb : zR b) : (zI a = zI b) = (a = b) := by
  apply propext
  rw [← Int32.toInt_inj, zI_toInt ha, zI_toInt hb]
theorem zI_in {i : Int} {n : Nat} (hn : n < 2147483648) (h : 0 ≤ i ∧ i < (n : Int)) : vp_in (zI i) n := by
  have hr : zR i := ⟨by omega, by omega⟩
  rw [vp_in_iff, zI_toInt hr]
  exact h
theorem zI_nat {i : Int} (h : 0 ≤ i) (h2 : i < 2147483648) : (zI i).toNatClampNeg = i.toNat := Int32.toNatClampNeg_ofInt_of_le (by omega) h2
theorem zI_nn {i : Int} (h : 0 ≤ i) (h2 : i < 2147483648) : ¬ zI i < 0 := by
  rw [Int32.lt_iff_toInt_lt, zI_toInt ⟨by omega, h2⟩]
  simp; exact h
/-- D, classes, array classes, how many cells, the cells, their addresses -/
abbrev zG : Type := va_G × List vw_C × List (ClassId × FieldType) × Nat × (Nat → (Int → Int) → va_E) × (Nat → Nat)
def zws (G : zG) (m : zM) : va_W := (List.range G.2.2.2.1).map (fun c => (G.2.2.2.2.2 c, G.2.2.2.2.1 c (m c)))
def zHold (G : zG) (m : zM) (H : Heap) : Prop := va_P G.1 G.2.1 (zws G m) H
def zA (G : zG) (q : Nat) : Prop := ∃ c, c < G.2.2.2.1 ∧ G.2.2.2.2.2 c = q
def zGok (G : zG) : Prop := ∀ c c' : Nat, c < G.2.2.2.1 → c' < G.2.2.2.1 → G.2.2.2.2.2 c = G.2.2.2.2.2 c' → c = c'
def zuf (f : Int → Int) (i v : Int) : Int → Int := fun j => if j = i then v else f j
def zuc (m : zM) (c : Nat) (f : Int → Int) : zM := fun c' => if c' = c then f else m c'
def zup (m : zM) (c : Nat) (i v : Int) : zM := zuc m c (zuf (m c) i v)
theorem zws_get {G : zG} {m : zM} {c : Nat} (h : c < G.2.2.2.1) : (zws G m)[c]? = some (G.2.2.2.2.2 c, G.2.2.2.2.1 c (m c)) := by
  simp [zws, h]
theorem zws_at {G : zG} {m : zM} {k : Nat} {q : Nat × va_E} (h : (zws G m)[k]? = some q) : k < G.2.2.2.1 ∧ q = (G.2.2.2.2.2 k, G.2.2.2.2.1 k (m k)) := by
  have hl : k < (zws G m).length := (List.getElem?_eq_some_iff.mp h).1
  have hk : k < G.2.2.2.1 := by simpa [zws] using hl
  rw [zws_get hk] at h
  exact ⟨hk, (Option.some.inj h).symm⟩
theorem zws_D {G : zG} {m : zM} (h : zGok G) : va_D (zA G) (zws G m) := by
  refine ⟨fun i j p q hi hj e => ?_, fun k q hk => ?_⟩
  · obtain ⟨h1, rfl⟩ := zws_at hi
    obtain ⟨h2, rfl⟩ := zws_at hj
    exact h i j h1 h2 e
  · obtain ⟨h1, rfl⟩ := zws_at hk
    exact ⟨k, h1, rfl⟩
theorem zws_set {G : zG} {m : zM} {c : Nat} {f : Int → Int} (h : c < G.2.2.2.1) : (zws G m).set c (G.2.2.2.2.2 c, G.2.2.2.2.1 c f) = zws G (zuc m c f) := by
  apply List.ext_getElem?
  intro k
  by_cases hk : k = c
  · subst hk
    rw [List.getElem?_set_self (by simpa [zws] using h), zws_get h]
    simp [zuc]
  · rw [List.getElem?_set_ne (Ne.symm hk)]
    by_cases hn : k < G.2.2.2.1
    · rw [zws_get hn, zws_get hn]
      simp [zuc, hk]
    · rw [List.getElem?_eq_none (by simpa [zws] using hn), List.getElem?_eq_none (by simpa [zws] using hn)]
/-- the machine's fixed part, with the answer and the memory that are due -/
abbrev zXT : Type := Program × Launch × Env × Room × State × MethodId × Array Value × List Frame × Method × Code × zG × Option Value × zM
def zQ (G : zG) (v0 : Option Value) (m0 : zM) : Array Value → State → Outcome → State → Prop := fun _ st oc t => oc = .returned v0 ∧ zHold G m0 t.heap ∧ va_F (zA G) st t
def zV : zXT → Nat → zM → Nat → List (Nat × Value) → List Value → Prop
  | (p, l, e, R, s, mI, args, below, meth, c, G, v0, m0), nL, m, pc, lv, st => ∀ (H : Heap) (locs : List Loc) (ls : Array Slot), zHold G m H → va_S (zA G) s.heap H locs → lv_has ls nL lv → W p l e R s mI args below meth c H locs 0 0 (MQ below (zQ G v0 m0) args s 0 0 (zA G)) (F0 mI pc ls st)
def zC : zXT → Launch → Room → zG → Option Value → zM → ByteArray → Nat → String → Option FieldType → Prop
  | (p, l, _, R, s, mI, args, _, meth, c, G, v0, m0), l', R', G', v', m', cc, nL, own, ret => l = l' ∧ R = R' ∧ G = G' ∧ v0 = v' ∧ m0 = m' ∧ p.tables.exec = Jvm.exec ∧ c.code = cc ∧ c.maxLocals = nL ∧ s.vm.findClass own = some mI.cls ∧ (∀ w ∈ zW, w.before args s = true) ∧ va_K G.1 G.2.1 G.2.2.1 s ∧ (zGok G ∧ va_Nw zNest s) ∧ meth.sig.returnType = ret ∧ meth.locks = false
section ZV
variable {X : zXT} {l : Launch} {R : Room} {G : zG} {v0 : Option Value} {m0 : zM} {cc : ByteArray} {nL : Nat} {own : String} {ret : Option FieldType}
variable {m : zM} {pc : Nat} {lv lv' : List (Nat × Value)} {st : List Value}
theorem z_sub (ks : List Nat) (hl : lv_pick lv ks = lv') (k : zV X nL m pc lv' st) : zV X nL m pc lv st := by
  obtain ⟨p, l, e, R, s, mI, args, below, meth, c, G, v0, m0⟩ := X
  exact fun H locs ls h1 h2 h3 => k H locs ls h1 h2 (lv_sub h3 ks hl)
theorem z_iconst (hX : zC X l R G v0 m0 cc nL own ret) {n : Int} (hd : decode cc pc = .ok (.iconst n, 1)) (k : zV X nL m (pc + 1) lv (.int (zI n) :: st)) : zV X nL m pc lv st := by
  obtain ⟨p, l, e, R, s, mI, args, below, meth, c, G, v0, m0⟩ := X
  obtain ⟨rfl, rfl, rfl, rfl, rfl, hx, hb, hml, hown, hts, hK, ⟨hok, hnw⟩, hr, hlk⟩ := hX
  exact fun H locs ls h1 h2 h3 => lv_iconst hx hb hd rfl (k H locs ls h1 h2 h3)
theorem z_bipush (hX : zC X l R G v0 m0 cc nL own ret) {n : Int} (hd : decode cc pc = .ok (.bipush n, 2)) (hv : (Int8.ofInt n).toInt32 = zI n) (k : zV X nL m (pc + 2) lv (.int (zI n) :: st)) : zV X nL m pc lv st := by
  obtain ⟨p, l, e, R, s, mI, args, below, meth, c, G, v0, m0⟩ := X
  obtain ⟨rfl, rfl, rfl, rfl, rfl, hx, hb, hml, hown, hts, hK, ⟨hok, hnw⟩, hr, hlk⟩ := hX
  exact fun H locs ls h1 h2 h3 => lv_bipush hx hb hd hv (k H locs ls h1 h2 h3)
theorem z_sipush (hX : zC X l R G v0 m0 cc nL own ret) {n : Int} (hd : decode cc pc = .ok (.sipush n, 3)) (hv : (Int16.ofInt n).toInt32 = zI n) (k : zV X nL m (pc + 3) lv (.int (zI n) :: st)) : zV X nL m pc lv st := by
  obtain ⟨p, l, e, R, s, mI, args, below, meth, c, G, v0, m0⟩ := X
  obtain ⟨rfl, rfl, rfl, rfl, rfl, hx, hb, hml, hown, hts, hK, ⟨hok, hnw⟩, hr, hlk⟩ := hX
  exact fun H locs ls h1 h2 h3 => lv_sipush hx hb hd hv (k H locs ls h1 h2 h3)
theorem z_ldc (hX : zC X l R G v0 m0 cc nL own ret) {ix : Nat} {n : Int} {v : Int32} (hw : Cond.constant own ix v ∈ zW) (hv : v = zI n) (hd : decode cc pc = .ok (.ldc ix, 2)) (k : zV X nL m (pc + 2) lv (.int (zI n) :: st)) : zV X nL m pc lv st := by
  obtain ⟨p, l, e, R, s, mI, args, below, meth, c, G, v0, m0⟩ := X
  obtain ⟨rfl, rfl, rfl, rfl, rfl, hx, hb, hml, hown, hts, hK, ⟨hok, hnw⟩, hr, hlk⟩ := hX
  subst hv
  exact fun H locs ls h1 h2 h3 => lv_ldc hx hb hown (hts _ hw) hd (k H locs ls h1 h2 h3)
theorem z_ldc2 (hX : zC X l R G v0 m0 cc nL own ret) {ix : Nat} {n : Int} {v : Int64} (hw : Cond.constantLong own ix v ∈ zW) (hv : v = zJ n) (hd : decode cc pc = .ok (.ldc2_w ix, 3)) (k : zV X nL m (pc + 3) lv (.long (zJ n) :: st)) : zV X nL m pc lv st := by
  obtain ⟨p, l, e, R, s, mI, args, below, meth, c, G, v0, m0⟩ := X
  obtain ⟨rfl, rfl, rfl, rfl, rfl, hx, hb, hml, hown, hts, hK, ⟨hok, hnw⟩, hr, hlk⟩ := hX
  subst hv
  exact fun H locs ls h1 h2 h3 => lv_ldc2 hx hb hown (hts _ hw) hd (k H locs ls h1 h2 h3)
theorem z_lconst (hX : zC X l R G v0 m0 cc nL own ret) {n : Fin 2} {a : Int} (hd : decode cc pc = .ok (.lconst n, 1)) (hv : Int64.ofNat (n : Nat) = zJ a) (k : zV X nL m (pc + 1) lv (.long (zJ a) :: st)) : zV X nL m pc lv st := by
  obtain ⟨p, l, e, R, s, mI, args, below, meth, c, G, v0, m0⟩ := X
  obtain ⟨rfl, rfl, rfl, rfl, rfl, hx, hb, hml, hown, hts, hK, ⟨hok, hnw⟩, hr, hlk⟩ := hX
  exact fun H locs ls h1 h2 h3 => lv_lconst hx hb hd hv (k H locs ls h1 h2 h3)
theorem z_iload_n (hX : zC X l R G v0 m0 cc nL own ret) {n : Fin 4} {i : Nat} {x : Int32} (j : Nat) (hd : decode cc pc = .ok (.iload_n n, 1)) (hi : (n : Nat) = i) (hl : lv[j]? = some (i, .int x)) (k : zV X nL m (pc + 1) lv (.int x :: st)) : zV X nL m pc lv st := by
  obtain ⟨p, l, e, R, s, mI, args, below, meth, c, G, v0, m0⟩ := X
  obtain ⟨rfl, rfl, rfl, rfl, rfl, hx, hb, hml, hown, hts, hK, ⟨hok, hnw⟩, hr, hlk⟩ := hX
  exact fun H locs ls h1 h2 h3 => lv_iload_n hx hb hd hi (lv_at h3 j hl) (k H locs ls h1 h2 h3)
theorem z_iload (hX : zC X l R G v0 m0 cc nL own ret) {i : Nat} {x : Int32} (j : Nat) (hd : decode cc pc = .ok (.iload i, 2)) (hl : lv[j]? = some (i, .int x)) (k : zV X nL m (pc + 2) lv (.int x :: st)) : zV X nL m pc lv st := by
  obtain ⟨p, l, e, R, s, mI, args, below, meth, c, G, v0, m0⟩ := X
  obtain ⟨rfl, rfl, rfl, rfl, rfl, hx, hb, hml, hown, hts, hK, ⟨hok, hnw⟩, hr, hlk⟩ := hX
  exact fun H locs ls h1 h2 h3 => lv_iload hx hb hd (lv_at h3 j hl) (k H locs ls h1 h2 h3)
theorem z_lload_n (hX : zC X l R G v0 m0 cc nL own ret) {n : Fin 4} {i : Nat} {x : Int64} (j : Nat) (hd : decode cc pc = .ok (.lload_n n, 1)) (hi : (n : Nat) = i) (hl : lv[j]? = some (i, .long x)) (k : zV X nL m (pc + 1) lv (.long x :: st)) : zV X nL m pc lv st := by
  obtain ⟨p, l, e, R, s, mI, args, below, meth, c, G, v0, m0⟩ := X
  obtain ⟨rfl, rfl, rfl, rfl, rfl, hx, hb, hml, hown, hts, hK, ⟨hok, hnw⟩, hr, hlk⟩ := hX
  exact fun H locs ls h1 h2 h3 => lv_lload_n hx hb hd hi (lv_at h3 j hl) (k H locs ls h1 h2 h3)
theorem z_lload (hX : zC X l R G v0 m0 cc nL own ret) {i : Nat} {x : Int64} (j : Nat) (hd : decode cc pc = .ok (.lload i, 2)) (hl : lv[j]? = some (i, .long x)) (k : zV X nL m (pc + 2) lv (.long x :: st)) : zV X nL m pc lv st := by
  obtain ⟨p, l, e, R, s, mI, args, below, meth, c, G, v0, m0⟩ := X
  obtain ⟨rfl, rfl, rfl, rfl, rfl, hx, hb, hml, hown, hts, hK, ⟨hok, hnw⟩, hr, hlk⟩ := hX
  exact fun H locs ls h1 h2 h3 => lv_lload hx hb hd (lv_at h3 j hl) (k H locs ls h1 h2 h3)
theorem z_aload_n (hX : zC X l R G v0 m0 cc nL own ret) {n : Fin 4} {i : Nat} {x : Nat} (j : Nat) (hd : decode cc pc = .ok (.aload_n n, 1)) (hi : (n : Nat) = i) (hl : lv[j]? = some (i, .ref x)) (k : zV X nL m (pc + 1) lv (.ref x :: st)) : zV X nL m pc lv st := by
  obtain ⟨p, l, e, R, s, mI, args, below, meth, c, G, v0, m0⟩ := X
  obtain ⟨rfl, rfl, rfl, rfl, rfl, hx, hb, hml, hown, hts, hK, ⟨hok, hnw⟩, hr, hlk⟩ := hX
  exact fun H locs ls h1 h2 h3 => lv_aload_n hx hb hd hi (lv_at h3 j hl) (k H locs ls h1 h2 h3)
theorem z_aload (hX : zC X l R G v0 m0 cc nL own ret) {i : Nat} {x : Nat} (j : Nat) (hd : decode cc pc = .ok (.aload i, 2)) (hl : lv[j]? = some (i, .ref x)) (k : zV X nL m (pc + 2) lv (.ref x :: st)) : zV X nL m pc lv st := by
  obtain ⟨p, l, e, R, s, mI, args, below, meth, c, G, v0, m0⟩ := X
  obtain ⟨rfl, rfl, rfl, rfl, rfl, hx, hb, hml, hown, hts, hK, ⟨hok, hnw⟩, hr, hlk⟩ := hX
  exact fun H locs ls h1 h2 h3 => lv_aload hx hb hd (lv_at h3 j hl) (k H locs ls h1 h2 h3)
abbrev zs1 (lv : List (Nat × Value)) (i : Nat) (v : Value) : List (Nat × Value) := (i, v) :: lv.filter (fun q => !(q.1 == i) && !(q.1 + 1 == i && q.2.category == 2))
abbrev zs2 (lv : List (Nat × Value)) (i : Nat) (v : Value) : List (Nat × Value) := (i, v) :: lv.filter (fun q => !(q.1 == i) && (!(q.1 == i + 1) && !(q.1 + 1 == i && q.2.category == 2)))
theorem z_istore_n (hX : zC X l R G v0 m0 cc nL own ret) {n : Fin 4} {i : Nat} {x : Int32} (hd : decode cc pc = .ok (.istore_n n, 1)) (hi : (n : Nat) = i) (hn : i < nL) (hl : zs1 lv i (.int x) = lv') (k : zV X nL m (pc + 1) lv' st) : zV X nL m pc lv (.int x :: st) := by
  obtain ⟨p, l, e, R, s, mI, args, below, meth, c, G, v0, m0⟩ := X
  obtain ⟨rfl, rfl, rfl, rfl, rfl, hx, hb, hml, hown, hts, hK, ⟨hok, hnw⟩, hr, hlk⟩ := hX
  exact fun H locs ls h1 h2 h3 => lv_istore_n hx hb hd hi h3 hn hl (fun ls' h3 => k H locs ls' h1 h2 h3)
theorem z_istore (hX : zC X l R G v0 m0 cc nL own ret) {i : Nat} {x : Int32} (hd : decode cc pc = .ok (.istore i, 2)) (hn : i < nL) (hl : zs1 lv i (.int x) = lv') (k : zV X nL m (pc + 2) lv' st) : zV X nL m pc lv (.int x :: st) := by
  obtain ⟨p, l, e, R, s, mI, args, below, meth, c, G, v0, m0⟩ := X
  obtain ⟨rfl, rfl, rfl, rfl, rfl, hx, hb, hml, hown, hts, hK, ⟨hok, hnw⟩, hr, hlk⟩ := hX
  exact fun H locs ls h1 h2 h3 => lv_istore hx hb hd h3 hn hl (fun ls' h3 => k H locs ls' h1 h2 h3)
theorem z_lstore (hX : zC X l R G v0 m0 cc nL own ret) {i : Nat} {x : Int64} (hd : decode cc pc = .ok (.lstore i, 2)) (hn : i + 1 < nL) (hl : zs2 lv i (.long x) = lv') (k : zV X nL m (pc + 2) lv' st) : zV X nL m pc lv (.long x :: st) := by
  obtain ⟨p, l, e, R, s, mI, args, below, meth, c, G, v0, m0⟩ := X
  obtain ⟨rfl, rfl, rfl, rfl, rfl, hx, hb, hml, hown, hts, hK, ⟨hok, hnw⟩, hr, hlk⟩ := hX
  exact fun H locs ls h1 h2 h3 => lv_lstore hx hb hd h3 hn hl (fun ls' h3 => k H locs ls' h1 h2 h3)
theorem z_astore_n (hX : zC X l R G v0 m0 cc nL own ret) {n : Fin 4} {i : Nat} {x : Nat} (hd : decode cc pc = .ok (.astore_n n, 1)) (hi : (n : Nat) = i) (hn : i < nL) (hl : zs1 lv i (.ref x) = lv') (k : zV X nL m (pc + 1) lv' st) : zV X nL m pc lv (.ref x :: st) := by
  obtain ⟨p, l, e, R, s, mI, args, below, meth, c, G, v0, m0⟩ := X
  obtain ⟨rfl, rfl, rfl, rfl, rfl, hx, hb, hml, hown, hts, hK, ⟨hok, hnw⟩, hr, hlk⟩ := hX
  exact fun H locs ls h1 h2 h3 => lv_astore_n hx hb hd hi h3 hn hl (fun ls' h3 => k H locs ls' h1 h2 h3)
theorem z_astore (hX : zC X l R G v0 m0 cc nL own ret) {i : Nat} {x : Nat} (hd : decode cc pc = .ok (.astore i, 2)) (hn : i < nL) (hl : zs1 lv i (.ref x) = lv') (k : zV X nL m (pc + 2) lv' st) : zV X nL m pc lv (.ref x :: st) := by
  obtain ⟨p, l, e, R, s, mI, args, below, meth, c, G, v0, m0⟩ := X
  obtain ⟨rfl, rfl, rfl, rfl, rfl, hx, hb, hml, hown, hts, hK, ⟨hok, hnw⟩, hr, hlk⟩ := hX
  exact fun H locs ls h1 h2 h3 => lv_astore hx hb hd h3 hn hl (fun ls' h3 => k H locs ls' h1 h2 h3)
theorem z_iinc (hX : zC X l R G v0 m0 cc nL own ret) {i : Nat} {n a : Int} (j : Nat) (hd : decode cc pc = .ok (.iinc i n, 3)) (hk : lv[j]? = some (i, .int (zI a))) (hn : i < nL) (hl : zs1 lv i (.int (zI (a + n))) = lv') (k : zV X nL m (pc + 3) lv' st) : zV X nL m pc lv st := by
  obtain ⟨p, l, e, R, s, mI, args, below, meth, c, G, v0, m0⟩ := X
  obtain ⟨rfl, rfl, rfl, rfl, rfl, hx, hb, hml, hown, hts, hK, ⟨hok, hnw⟩, hr, hlk⟩ := hX
  exact fun H locs ls h1 h2 h3 => lv_iinc hx hb hd h3 hk (zI_add a n) hn hl (fun ls' h3 => k H locs ls' h1 h2 h3)
theorem z_iadd (hX : zC X l R G v0 m0 cc nL own ret) {a b : Int} (hd : decode cc pc = .ok (.iadd, 1)) (k : zV X nL m (pc + 1) lv (.int (zI (a + b)) :: st)) : zV X nL m pc lv (.int (zI b) :: .int (zI a) :: st) := by
  obtain ⟨p, l, e, R, s, mI, args, below, meth, c, G, v0, m0⟩ := X
  obtain ⟨rfl, rfl, rfl, rfl, rfl, hx, hb, hml, hown, hts, hK, ⟨hok, hnw⟩, hr, hlk⟩ := hX
  exact fun H locs ls h1 h2 h3 => lv_iadd hx hb hd (by rw [zI_add]; exact k H locs ls h1 h2 h3)
theorem z_isub (hX : zC X l R G v0 m0 cc nL own ret) {a b : Int} (hd : decode cc pc = .ok (.isub, 1)) (k : zV X nL m (pc + 1) lv (.int (zI (a - b)) :: st)) : zV X nL m pc lv (.int (zI b) :: .int (zI a) :: st) := by
  obtain ⟨p, l, e, R, s, mI, args, below, meth, c, G, v0, m0⟩ := X
  obtain ⟨rfl, rfl, rfl, rfl, rfl, hx, hb, hml, hown, hts, hK, ⟨hok, hnw⟩, hr, hlk⟩ := hX
  exact fun H locs ls h1 h2 h3 => lv_isub hx hb hd (by rw [zI_sub]; exact k H locs ls h1 h2 h3)
theorem z_imul (hX : zC X l R G v0 m0 cc nL own ret) {a b : Int} (hd : decode cc pc = .ok (.imul, 1)) (k : zV X nL m (pc + 1) lv (.int (zI (a * b)) :: st)) : zV X nL m pc lv (.int (zI b) :: .int (zI a) :: st) := by
  obtain ⟨p, l, e, R, s, mI, args, below, meth, c, G, v0, m0⟩ := X
  obtain ⟨rfl, rfl, rfl, rfl, rfl, hx, hb, hml, hown, hts, hK, ⟨hok, hnw⟩, hr, hlk⟩ := hX
  exact fun H locs ls h1 h2 h3 => lv_imul hx hb hd (by rw [zI_mul]; exact k H locs ls h1 h2 h3)
end ZV
