/-! constructors -/
/-- words that aren't kept by the table's own laws: links of nest mates, arrays over own classes -/
def yN (U : State) : Prop := va_Nw zNest U ∧ va_Nw (.methodLinkNest RX5 21 yX0_init "MirrorNodes") U ∧ va_Nw (.methodLinkNest RX5 28 yX2_init "MirrorNodes") U ∧ va_Nw (.methodLinkNest RX5 52 yX4_init "MirrorNodes") U ∧ va_AO "MirrorNodes$Row" U ∧ va_AO "MirrorNodes$Sheet" U
theorem yN.warm {s U : State} (hW : s.WarmedH U.vm) (h : yN s) : yN U := ⟨va_Nw.warmM hW h.1, va_Nw.warmM hW h.2.1, va_Nw.warmM hW h.2.2.1, va_Nw.warmM hW h.2.2.2.1, h.2.2.2.2.1.moved hW.alike, h.2.2.2.2.2.moved hW.alike⟩
theorem yN.same {u U : State} (hv : u.vm = U.vm) (h : yN u) : yN U := ⟨va_Nw.same rfl hv h.1, va_Nw.same rfl hv h.2.1, va_Nw.same rfl hv h.2.2.1, va_Nw.same rfl hv h.2.2.2.1, h.2.2.2.2.1.moved (hv ▸ Vm.Alike.refl u.vm), h.2.2.2.2.2.moved (hv ▸ Vm.Alike.refl u.vm)⟩
abbrev yXT : Type := Program × Launch × Env × Room × State × MethodId × Array Value × List Frame × Method × Code × va_G × (Nat → ClassId) × (Nat → Prop) × (Array Value → State → Outcome → State → Prop) × Nat × Nat
def yV : yXT → Nat → Nat → Nat → va_W → Nat → List (Nat × Value) → List Value → Prop
  | (p, l, e, R, s, mI, args, below, meth, c, D, ca, A, Qc, mc, ms), nL, ck, sk, ws, pc, lv, st => ∀ (H : Heap) (locs : List Loc) (ls : Array Slot), va_P D vwCl ws H → va_D A ws → va_S A s.heap H locs → lv_has ls nL lv → W p l e R s mI args below meth c H locs ck sk (MQ below Qc args s mc ms A) (F0 mI pc ls st)
def yC : yXT → Launch → Room → va_G → (Nat → ClassId) → (Nat → Prop) → (Array Value → State → Outcome → State → Prop) → Nat → Nat → ByteArray → Nat → String → Prop
  | (p, l, _, R, s, mI, args, _, meth, c, D, ca, A, Qc, mc, ms), l', R', D', ca', A', Qc', mc', ms', cc, nL, own => l = l' ∧ R = R' ∧ D = D' ∧ ca = ca' ∧ A = A' ∧ Qc = Qc' ∧ mc = mc' ∧ ms = ms' ∧ p.tables.exec = Jvm.exec ∧ c.code = cc ∧ c.maxLocals = nL ∧ s.vm.findClass own = some mI.cls ∧ (∀ w ∈ zW, w.before args s = true) ∧ va_K D vwCl (ztys ca) s ∧ yN s ∧ (∀ q, s.heap.size ≤ q → A q) ∧ meth.sig.returnType = none ∧ meth.locks = false ∧ meth.name = "<init>"
/-- which cells a constructor may change: its object, and those that it makes -/
def yA (h0 sz : Nat) (q : Nat) : Prop := q = h0 ∨ sz ≤ q
def yQ (D : va_G) (Post : va_W → Prop) (A : Nat → Prop) : Array Value → State → Outcome → State → Prop := fun _ st oc t => oc = .returned none ∧ (∃ ws, Post ws ∧ va_P D vwCl ws t.heap ∧ va_D A ws) ∧ va_F A st t
def yCt (l : Launch) (D : va_G) (ca : Nat → ClassId) (y : MethodName) (cc : ByteArray) (nL : Nat) (rm : Room) (h0 : Nat) (av : List Value) (e0 : va_E) (Post : va_W → Prop) (mc ms : Nat) : Prop :=
  ∀ sz, h0 < sz → Met l y (Cond.code y cc nL none :: zW) rm (va_Pc (.ref h0 :: av) (fun U => U.heap.size = sz ∧ va_P D vwCl [(h0, e0)] U.heap ∧ va_K D vwCl (ztys ca) U ∧ yN U)) (yQ D Post (yA h0 sz)) mc ms (yA h0 sz)
theorem y_of {l : Launch} {D : va_G} {ca : Nat → ClassId} {y : MethodName} {cc : ByteArray} {nL : Nat} {rm : Room} {h0 : Nat} {av : List Value} {e0 : va_E} {Post : va_W → Prop} {mc ms : Nat} (hy : plainName y.cls = true) (hy2 : y.name = "<init>") (hn : (lg_sl (.ref h0 :: av)).length ≤ nL)
    (body : ∀ (X : yXT) (sz : Nat), h0 < sz → yC X l rm D ca (yA h0 sz) (yQ D Post (yA h0 sz)) mc ms cc nL y.cls → yV X nL 0 0 [(h0, e0)] 0 (lv_args 0 (.ref h0 :: av)) []) : yCt l D ca y cc nL rm h0 av e0 Post mc ms := by
  intro sz hsz
  refine Met.ofW (cc := cc) (maxL := nL) (ret := none) hy rfl ?_
  intro p e s mI args below meth c s₁ B hml hv
  obtain ⟨rfl, hs, hP, hK, hN⟩ := hv
  have hts := atoms_spec (ws := Cond.code y cc nL none :: zW) B.pre
  have hown : s.vm.findClass y.cls = some mI.cls := findClass_of_methodNamed B.named
  have hl := lv_entry (.ref h0 :: av) (n := nL) hn
  have hin : meth.name = "<init>" := hy2 ▸ (name_of_methodNamed B.named B.method).1
  rw [lg_entry_eq]
  refine body (p, l, e, rm, s, mI, (.ref h0 :: av).toArray, below, meth, c, D, ca, yA h0 sz, yQ D Post (yA h0 sz), mc, ms) sz hsz ⟨rfl, rfl, rfl, rfl, rfl, rfl, rfl, rfl, B.exec, B.bytes, hml, hown, fun w h => hts w (List.mem_cons_of_mem _ h), hK, hN, fun q hq => Or.inr (by rw [← hs]; exact hq), B.returns, B.notSynchronized, hin⟩ s.heap [] _ hP ⟨fun i j p q hi hj _ => ?_, fun k q hk => ?_⟩ va_S.rf hl
  · have h1 := (List.getElem?_eq_some_iff.mp hi).1
    have h2 := (List.getElem?_eq_some_iff.mp hj).1
    simp at h1 h2
    omega
  · have h1 := (List.getElem?_eq_some_iff.mp hk).1
    simp at h1
    subst h1
    cases hk
    exact Or.inl rfl
section YV
variable {X : yXT} {l : Launch} {R : Room} {D : va_G} {ca : Nat → ClassId} {A : Nat → Prop} {Qc : Array Value → State → Outcome → State → Prop} {mc ms : Nat} {cc : ByteArray} {nL : Nat} {own : String}
variable {ck sk : Nat} {ws ws' : va_W} {pc : Nat} {lv lv' : List (Nat × Value)} {st : List Value}
theorem y_ws (h : ws = ws') (k : yV X nL ck sk ws' pc lv st) : yV X nL ck sk ws pc lv st := h ▸ k
theorem y_iconst (hX : yC X l R D ca A Qc mc ms cc nL own) {n : Int} {v : Int32} (hd : decode cc pc = .ok (.iconst n, 1)) (hv : Int32.ofInt n = v) (k : yV X nL ck sk ws (pc + 1) lv (.int v :: st)) : yV X nL ck sk ws pc lv (st) := by
  obtain ⟨p, l, e, R, s, mI, args, below, meth, cd, D, ca, A, Qc, mc, ms⟩ := X
  obtain ⟨rfl, rfl, rfl, rfl, rfl, rfl, rfl, rfl, hx, hb, hml, hown, hts, hK, hN, hA, hr, hlk, hin2⟩ := hX
  exact fun H locs ls h1 h2 h3 h4 => lv_iconst hx hb hd hv (k H locs ls h1 h2 h3 h4)
theorem y_bipush (hX : yC X l R D ca A Qc mc ms cc nL own) {n : Int} {v : Int32} (hd : decode cc pc = .ok (.bipush n, 2)) (hv : (Int8.ofInt n).toInt32 = v) (k : yV X nL ck sk ws (pc + 2) lv (.int v :: st)) : yV X nL ck sk ws pc lv (st) := by
  obtain ⟨p, l, e, R, s, mI, args, below, meth, cd, D, ca, A, Qc, mc, ms⟩ := X
  obtain ⟨rfl, rfl, rfl, rfl, rfl, rfl, rfl, rfl, hx, hb, hml, hown, hts, hK, hN, hA, hr, hlk, hin2⟩ := hX
  exact fun H locs ls h1 h2 h3 h4 => lv_bipush hx hb hd hv (k H locs ls h1 h2 h3 h4)
theorem y_sipush (hX : yC X l R D ca A Qc mc ms cc nL own) {n : Int} {v : Int32} (hd : decode cc pc = .ok (.sipush n, 3)) (hv : (Int16.ofInt n).toInt32 = v) (k : yV X nL ck sk ws (pc + 3) lv (.int v :: st)) : yV X nL ck sk ws pc lv (st) := by
  obtain ⟨p, l, e, R, s, mI, args, below, meth, cd, D, ca, A, Qc, mc, ms⟩ := X
  obtain ⟨rfl, rfl, rfl, rfl, rfl, rfl, rfl, rfl, hx, hb, hml, hown, hts, hK, hN, hA, hr, hlk, hin2⟩ := hX
  exact fun H locs ls h1 h2 h3 h4 => lv_sipush hx hb hd hv (k H locs ls h1 h2 h3 h4)
theorem y_iload_n (hX : yC X l R D ca A Qc mc ms cc nL own) {n : Fin 4} {i : Nat} {x : Int32} (j : Nat) (hd : decode cc pc = .ok (.iload_n n, 1)) (hi : (n : Nat) = i) (hl : lv[j]? = some (i, .int x)) (k : yV X nL ck sk ws (pc + 1) lv (.int x :: st)) : yV X nL ck sk ws pc lv (st) := by
  obtain ⟨p, l, e, R, s, mI, args, below, meth, cd, D, ca, A, Qc, mc, ms⟩ := X
  obtain ⟨rfl, rfl, rfl, rfl, rfl, rfl, rfl, rfl, hx, hb, hml, hown, hts, hK, hN, hA, hr, hlk, hin2⟩ := hX
  exact fun H locs ls h1 h2 h3 h4 => lv_iload_n hx hb hd hi (lv_at h4 j hl) (k H locs ls h1 h2 h3 h4)
theorem y_aload_n (hX : yC X l R D ca A Qc mc ms cc nL own) {n : Fin 4} {i : Nat} {x : Nat} (j : Nat) (hd : decode cc pc = .ok (.aload_n n, 1)) (hi : (n : Nat) = i) (hl : lv[j]? = some (i, .ref x)) (k : yV X nL ck sk ws (pc + 1) lv (.ref x :: st)) : yV X nL ck sk ws pc lv (st) := by
  obtain ⟨p, l, e, R, s, mI, args, below, meth, cd, D, ca, A, Qc, mc, ms⟩ := X
  obtain ⟨rfl, rfl, rfl, rfl, rfl, rfl, rfl, rfl, hx, hb, hml, hown, hts, hK, hN, hA, hr, hlk, hin2⟩ := hX
  exact fun H locs ls h1 h2 h3 h4 => lv_aload_n hx hb hd hi (lv_at h4 j hl) (k H locs ls h1 h2 h3 h4)
theorem y_dup (hX : yC X l R D ca A Qc mc ms cc nL own) {v : Value} (hd : decode cc pc = .ok (.dup, 1)) (hv : v.category = 1) (k : yV X nL ck sk ws (pc + 1) lv (v :: v :: st)) : yV X nL ck sk ws pc lv (v :: st) := by
  obtain ⟨p, l, e, R, s, mI, args, below, meth, cd, D, ca, A, Qc, mc, ms⟩ := X
  obtain ⟨rfl, rfl, rfl, rfl, rfl, rfl, rfl, rfl, hx, hb, hml, hown, hts, hK, hN, hA, hr, hlk, hin2⟩ := hX
  exact fun H locs ls h1 h2 h3 h4 => lv_dup hx hb hd hv (k H locs ls h1 h2 h3 h4)
theorem y_istore_n (hX : yC X l R D ca A Qc mc ms cc nL own) {n : Fin 4} {i : Nat} {x : Int32} (hd : decode cc pc = .ok (.istore_n n, 1)) (hi : (n : Nat) = i) (hn : i < nL) (hl : zs1 lv i (.int x) = lv') (k : yV X nL ck sk ws (pc + 1) lv' st) : yV X nL ck sk ws pc lv (.int x :: st) := by
  obtain ⟨p, l, e, R, s, mI, args, below, meth, cd, D, ca, A, Qc, mc, ms⟩ := X
  obtain ⟨rfl, rfl, rfl, rfl, rfl, rfl, rfl, rfl, hx, hb, hml, hown, hts, hK, hN, hA, hr, hlk, hin2⟩ := hX
  exact fun H locs ls h1 h2 h3 h4 => lv_istore_n hx hb hd hi h4 hn hl (fun ls' h4 => k H locs ls' h1 h2 h3 h4)
theorem y_iinc (hX : yC X l R D ca A Qc mc ms cc nL own) {i : Nat} {n : Int} {x v : Int32} (j : Nat) (hd : decode cc pc = .ok (.iinc i n, 3)) (hk : lv[j]? = some (i, .int x)) (hv : x + Int32.ofInt n = v) (hn : i < nL) (hl : zs1 lv i (.int v) = lv') (k : yV X nL ck sk ws (pc + 3) lv' st) : yV X nL ck sk ws pc lv st := by
  obtain ⟨p, l, e, R, s, mI, args, below, meth, cd, D, ca, A, Qc, mc, ms⟩ := X
  obtain ⟨rfl, rfl, rfl, rfl, rfl, rfl, rfl, rfl, hx, hb, hml, hown, hts, hK, hN, hA, hr, hlk, hin2⟩ := hX
  exact fun H locs ls h1 h2 h3 h4 => lv_iinc hx hb hd h4 hk hv hn hl (fun ls' h4 => k H locs ls' h1 h2 h3 h4)
theorem y_goto (hX : yC X l R D ca A Qc mc ms cc nL own) {off : Int} {tgt : Nat} (hd : decode cc pc = .ok (.goto off, 3)) (ht : (pc : Int) + off = (tgt : Int)) (k : yV X nL ck sk ws tgt lv st) : yV X nL ck sk ws pc lv st := by
  obtain ⟨p, l, e, R, s, mI, args, below, meth, cd, D, ca, A, Qc, mc, ms⟩ := X
  obtain ⟨rfl, rfl, rfl, rfl, rfl, rfl, rfl, rfl, hx, hb, hml, hown, hts, hK, hN, hA, hr, hlk, hin2⟩ := hX
  exact fun H locs ls h1 h2 h3 h4 => lv_goto hx hb hd ht (k H locs ls h1 h2 h3 h4)
theorem y_geT (hX : yC X l R D ca A Qc mc ms cc nL own) {x y : Int32} {off : Int} {tgt : Nat} (hd : decode cc pc = .ok (.if_icmp .ge off, 3)) (ht : (pc : Int) + off = (tgt : Int)) (hc : y ≤ x) (k : yV X nL ck sk ws tgt lv st) : yV X nL ck sk ws pc lv (.int y :: .int x :: st) := by
  obtain ⟨p, l, e, R, s, mI, args, below, meth, cd, D, ca, A, Qc, mc, ms⟩ := X
  obtain ⟨rfl, rfl, rfl, rfl, rfl, rfl, rfl, rfl, hx, hb, hml, hown, hts, hK, hN, hA, hr, hlk, hin2⟩ := hX
  exact fun H locs ls h1 h2 h3 h4 => lv_icmp_ge hx hb hd ht (fun _ => k H locs ls h1 h2 h3 h4) (fun q => absurd hc q)
theorem y_geF (hX : yC X l R D ca A Qc mc ms cc nL own) {x y : Int32} {off : Int} {tgt : Nat} (hd : decode cc pc = .ok (.if_icmp .ge off, 3)) (ht : (pc : Int) + off = (tgt : Int)) (hc : ¬ y ≤ x) (k : yV X nL ck sk ws (pc + 3) lv st) : yV X nL ck sk ws pc lv (.int y :: .int x :: st) := by
  obtain ⟨p, l, e, R, s, mI, args, below, meth, cd, D, ca, A, Qc, mc, ms⟩ := X
  obtain ⟨rfl, rfl, rfl, rfl, rfl, rfl, rfl, rfl, hx, hb, hml, hown, hts, hK, hN, hA, hr, hlk, hin2⟩ := hX
  exact fun H locs ls h1 h2 h3 h4 => lv_icmp_ge hx hb hd ht (fun q => absurd q hc) (fun _ => k H locs ls h1 h2 h3 h4)
theorem y_obj (hX : yC X l R D ca A Qc mc ms cc nL own) {ix : Nat} {a : Nat} (hw : Cond.methodLink own ix objectInit ∈ zW ∧ Cond.instanceMethod objectInit ∈ zW ∧ Cond.code objectInit ⟨#[0xb1]⟩ 1 none ∈ zW) (hd : decode cc pc = .ok (.invokespecial ix, 3)) (hR : 1 ≤ R.frames ∧ (st.map fun v => v.category).sum + 12 ≤ R.locals) (k : yV X nL ck sk ws (pc + 3) lv st) : yV X nL ck sk ws pc lv (.ref a :: st) := by
  obtain ⟨p, l, e, R, s, mI, args, below, meth, cd, D, ca, A, Qc, mc, ms⟩ := X
  obtain ⟨rfl, rfl, rfl, rfl, rfl, rfl, rfl, rfl, hx, hb, hml, hown, hts, hK, hN, hA, hr, hlk, hin2⟩ := hX
  exact fun H locs ls h1 h2 h3 h4 => W.objInit hx hb hown (hts _ hw.1) (hts _ hw.2.1) (hts _ hw.2.2) rfl (by rw [hml]; exact h4.1) rfl hd hR.1 (by show 2 * 0 + _ + 12 ≤ _; rw [Nat.mul_zero, Nat.zero_add]; exact hR.2) (k H locs ls h1 h2 h3 h4)
theorem y_get (hX : yC X l R D ca A Qc mc ms cc nL own) {ix ci j q0 a : Nat} {fs : List Value} {v : Value} (hf : zFl own ix ci j) (he : ws[q0]? = some (a, .inr (ci, fs))) (hv : fs[j]? = some v) (hd : decode cc pc = .ok (.getfield ix, 3)) (k : yV X nL ck sk ws (pc + 3) lv (v :: st)) : yV X nL ck sk ws pc lv (.ref a :: st) := by
  obtain ⟨p, l, e, R, s, mI, args, below, meth, cd, D, ca, A, Qc, mc, ms⟩ := X
  obtain ⟨rfl, rfl, rfl, rfl, rfl, rfl, rfl, rfl, hx, hb, hml, hown, hts, hK, hN, hA, hr, hlk, hin2⟩ := hX
  obtain ⟨C, T, N, ty, f1, f2, f3, f4, f5, f6, f7⟩ := hf
  exact fun H locs ls h1 h2 h3 h4 => va_get (T := T) hx hb hts f2 hown hK h1 q0 he f1 j f3 (hts _ f4) (fun _ h => by rw [f5] at h; exact h) hv hd (k H locs ls h1 h2 h3 h4)
/-- a final field, of this class -/
def zFf (own : String) (ci k : Nat) (ty : FieldType) : Prop := ∃ (C : String) (T : u_T) (N : Nat), vwCl[ci]? = some (C, T, N) ∧ (T k).2.2.2 = true ∧ parseFieldDescriptor (T k).2.2.1 = some ty ∧ (T k).1 = own
theorem y_putF (hX : yC X l R D ca A Qc mc ms cc nL own) {ix ci j q0 a : Nat} {ty : FieldType} {fs : List Value} {v : Value} (hf : zFl own ix ci j) (hi : zFf own ci j ty) (he : ws[q0]? = some (a, .inr (ci, fs))) (hfit : narrow ty v = v ∧ fits ty v = true) (hl : j < fs.length) (hws : ws.set q0 (a, .inr (ci, fs.set j v)) = ws') (hd : decode cc pc = .ok (.putfield ix, 3)) (k : yV X nL ck sk ws' (pc + 3) lv st) : yV X nL ck sk ws pc lv (v :: .ref a :: st) := by
  obtain ⟨p, l, e, R, s, mI, args, below, meth, cd, D, ca, A, Qc, mc, ms⟩ := X
  obtain ⟨rfl, rfl, rfl, rfl, rfl, rfl, rfl, rfl, hx, hb, hml, hown, hts, hK, hN, hA, hr, hlk, hin2⟩ := hX
  obtain ⟨C, T, N, ty, f1, f2, f3, f4, f5, f6, f7⟩ := hf
  obtain ⟨C', T', N', g1, g2, g3, g4⟩ := hi
  obtain ⟨rfl, rfl, rfl⟩ : C = C' ∧ T = T' ∧ N = N' := by
    have q := Option.some.inj (f1.symm.trans g1)
    cases q
    exact ⟨rfl, rfl, rfl⟩
  subst hws
  intro H locs ls h1 h2 h3 h4
  exact va_putF (T := T) hx hb hts f2 _ f6 f7 hown hK h1 h2 h3 q0 he f1 j f3 (hts _ f4) (fun _ h => by rw [f5] at h; exact h) g2 hin2 g4 g3 hfit.1 hfit.2 hl hd (fun H1 locs1 hP hD hS => k H1 locs1 ls hP hD hS h4)
theorem y_put (hX : yC X l R D ca A Qc mc ms cc nL own) {ix ci j q0 a : Nat} {fs : List Value} {x : Int32} (hf : zFl own ix ci j) (hi : zFi ci j) (he : ws[q0]? = some (a, .inr (ci, fs))) (hl : j < fs.length) (hws : ws.set q0 (a, .inr (ci, fs.set j (.int x))) = ws') (hd : decode cc pc = .ok (.putfield ix, 3)) (k : yV X nL ck sk ws' (pc + 3) lv st) : yV X nL ck sk ws pc lv (.int x :: .ref a :: st) := by
  obtain ⟨p, l, e, R, s, mI, args, below, meth, cd, D, ca, A, Qc, mc, ms⟩ := X
  obtain ⟨rfl, rfl, rfl, rfl, rfl, rfl, rfl, rfl, hx, hb, hml, hown, hts, hK, hN, hA, hr, hlk, hin2⟩ := hX
  obtain ⟨C, T, N, ty, f1, f2, f3, f4, f5, f6, f7⟩ := hf
  obtain ⟨C', T', N', g1, g2, g3⟩ := hi
  obtain ⟨rfl, rfl, rfl⟩ : C = C' ∧ T = T' ∧ N = N' := by
    have q := Option.some.inj (f1.symm.trans g1)
    cases q
    exact ⟨rfl, rfl, rfl⟩
  subst hws
  intro H locs ls h1 h2 h3 h4
  exact va_put (T := T) (ty := .int) hx hb hts f2 _ f6 f7 hown hK h1 h2 h3 q0 he f1 j f3 (hts _ f4) (fun _ h => by rw [f5] at h; exact h) g2 g3 rfl rfl hl hd (fun H1 locs1 hP hD hS => k H1 locs1 ls hP hD hS h4)
theorem y_iast (hX : yC X l R D ca A Qc mc ms cc nL own) {q0 a n i : Nat} {x ii : Int32} {f : Nat → Int32} (he : ws[q0]? = some (a, .inl (ca 0, n, .inl f))) (hi : vp_in ii n) (hii : ii.toNatClampNeg = i) (hws : ws.set q0 (a, .inl (ca 0, n, .inl (upd f i x))) = ws') (hd : decode cc pc = .ok (.iastore, 1)) (k : yV X nL ck sk ws' (pc + 1) lv st) : yV X nL ck sk ws pc lv (.int x :: .int ii :: .ref a :: st) := by
  obtain ⟨p, l, e, R, s, mI, args, below, meth, cd, D, ca, A, Qc, mc, ms⟩ := X
  obtain ⟨rfl, rfl, rfl, rfl, rfl, rfl, rfl, rfl, hx, hb, hml, hown, hts, hK, hN, hA, hr, hlk, hin2⟩ := hX
  subst hws
  subst hii
  intro H locs ls h1 h2 h3 h4
  exact va_iast hx hb hK h1 h2 h3 q0 0 he rfl hi hd (fun H1 locs1 hP hD hS => k H1 locs1 ls hP hD hS h4)
theorem y_newi (hX : yC X l R D ca A Qc mc ms cc nL own) {n : Int32} {N : Nat} (hw : Cond.arrayClass .int ∈ zW) (hn : ¬ n < 0) (hN : n.toNatClampNeg = N) (hsz : N ≤ 1000) (hR : ck + 1 ≤ R.cells ∧ sk + N ≤ R.slots) (hd : decode cc pc = .ok (.newarray .int, 2)) (k : ∀ q, yV X nL (ck + 1) (sk + N) (ws ++ [(q, .inl (ca 0, N, .inl (fun _ => 0)))]) (pc + 2) lv (.ref q :: st)) : yV X nL ck sk ws pc lv (.int n :: st) := by
  obtain ⟨p, l, e, R, s, mI, args, below, meth, cd, D, ca, A, Qc, mc, ms⟩ := X
  obtain ⟨rfl, rfl, rfl, rfl, rfl, rfl, rfl, rfl, hx, hb, hml, hown, hts, hK, hN0, hA, hr, hlk, hin2⟩ := hX
  intro H locs ls h1 h2 h3 h4
  refine va_newa (atype := .int) (ty := .int) (a0 := (N, .inl (fun _ => 0))) hx hb (hts _ hw) rfl hK h1 h2 h3 hA (fun cA => rfl) hn hN (by show N * 4 ≤ _; omega) hR.1 hR.2 hd (fun q cA H1 hK1 hP hD hS => ?_)
  have e : cA = ca 0 := by
    have q1 := (hK1.2 4 (cA, .int) rfl).2
    have q2 := (hK.2 0 (ca 0, .int) rfl).2
    have q1 : s.vm.findClass _ = some cA := q1
    have q2 : s.vm.findClass _ = some (ca 0) := q2
    exact Option.some.inj (q1.symm.trans q2)
  subst e
  exact k q H1 locs ls hP hD hS h4
theorem y_newl (hX : yC X l R D ca A Qc mc ms cc nL own) {n : Int32} {N : Nat} (hw : Cond.arrayClass .long ∈ zW) (hn : ¬ n < 0) (hN : n.toNatClampNeg = N) (hsz : N ≤ 1000) (hR : ck + 1 ≤ R.cells ∧ sk + N ≤ R.slots) (hd : decode cc pc = .ok (.newarray .long, 2)) (k : ∀ q, yV X nL (ck + 1) (sk + N) (ws ++ [(q, .inl (ca 1, N, .inr (.inl (fun _ => 0))))]) (pc + 2) lv (.ref q :: st)) : yV X nL ck sk ws pc lv (.int n :: st) := by
  obtain ⟨p, l, e, R, s, mI, args, below, meth, cd, D, ca, A, Qc, mc, ms⟩ := X
  obtain ⟨rfl, rfl, rfl, rfl, rfl, rfl, rfl, rfl, hx, hb, hml, hown, hts, hK, hN0, hA, hr, hlk, hin2⟩ := hX
  intro H locs ls h1 h2 h3 h4
  refine va_newa (atype := .long) (ty := .long) (a0 := (N, .inr (.inl (fun _ => 0)))) hx hb (hts _ hw) rfl hK h1 h2 h3 hA (fun cA => rfl) hn hN (by show N * 8 ≤ _; omega) hR.1 hR.2 hd (fun q cA H1 hK1 hP hD hS => ?_)
  have e : cA = ca 1 := by
    have q1 := (hK1.2 4 (cA, .long) rfl).2
    have q2 := (hK.2 1 (ca 1, .long) rfl).2
    have q1 : s.vm.findClass _ = some cA := q1
    have q2 : s.vm.findClass _ = some (ca 1) := q2
    exact Option.some.inj (q1.symm.trans q2)
  subst e
  exact k q H1 locs ls hP hD hS h4
theorem y_newq (hX : yC X l R D ca A Qc mc ms cc nL own) {C : String} {ix t : Nat} {n : Int32} {N : Nat} (ht : (ztys ca)[t]? = some (ca t, .object C)) (hw : Cond.classLink own ix C ∈ zW) (hov : yN X.2.2.2.2.1 → va_AO C X.2.2.2.2.1) (hn : ¬ n < 0) (hN : n.toNatClampNeg = N) (hsz : N ≤ 1000) (hR : ck + 1 ≤ R.cells ∧ sk + N ≤ R.slots) (hd : decode cc pc = .ok (.anewarray ix, 3)) (k : ∀ q, yV X nL (ck + 1) (sk + N) (ws ++ [(q, .inl (ca t, N, .inr (.inr (.inr (.inr (fun _ => none))))))]) (pc + 3) lv (.ref q :: st)) : yV X nL ck sk ws pc lv (.int n :: st) := by
  obtain ⟨p, l, e, R, s, mI, args, below, meth, cd, D, ca, A, Qc, mc, ms⟩ := X
  obtain ⟨rfl, rfl, rfl, rfl, rfl, rfl, rfl, rfl, hx, hb, hml, hown, hts, hK, hN0, hA, hr, hlk, hin2⟩ := hX
  intro H locs ls h1 h2 h3 h4
  refine va_newq hx hb hown (hts _ hw) (hov hN0) hK h1 h2 h3 hA hn hN (by omega) hR.1 hR.2 hd (fun q cA H1 hK1 hP hD hS => ?_)
  have e : cA = ca t := by
    obtain ⟨_, _, _, _, _, q1⟩ := (hK1.2 4 (cA, .object C) rfl).2
    obtain ⟨_, _, _, _, _, q2⟩ := (hK.2 t (ca t, .object C) ht).2
    exact Option.some.inj (q1.symm.trans q2)
  subst e
  exact k q H1 locs ls hP hD hS h4
theorem y_new (hX : yC X l R D ca A Qc mc ms cc nL own) {ix ci n : Nat} {C : String} {T : u_T} {fs : List Value} (hc : vwCl[ci]? = some (C, T, n)) (hin : ∀ w ∈ u_ws C T n, w ∈ zW) (ty : Nat → FieldType) (hty : ∀ k, k < n → parseFieldDescriptor (T k).2.2.1 = some (ty k)) (hw : Cond.classLink own ix C ∈ zW ∧ Cond.instantiable C n ∈ zW ∧ Cond.initialized C ∈ zW) (hfs : ∀ j, j < n → defaultValue (ty j) = vp_V fs j) (hR : ck + 1 ≤ R.cells ∧ sk + n ≤ R.slots) (hd : decode cc pc = .ok (.new ix, 3)) (k : ∀ q, yV X nL (ck + 1) (sk + n) (ws ++ [(q, .inr (ci, fs))]) (pc + 3) lv (.ref q :: st)) : yV X nL ck sk ws pc lv st := by
  obtain ⟨p, l, e, R, s, mI, args, below, meth, cd, D, ca, A, Qc, mc, ms⟩ := X
  obtain ⟨rfl, rfl, rfl, rfl, rfl, rfl, rfl, rfl, hx, hb, hml, hown, hts, hK, hN, hA, hr, hlk, hin2⟩ := hX
  intro H locs ls h1 h2 h3 h4
  exact va_new (T := T) hx hb hts hin ty hty hown (hts _ hw.1) (hts _ hw.2.1) (hts _ hw.2.2) hK h1 h2 h3 hA hc hfs hR.1 hR.2 hd (fun q H1 hP hD hS => k q H1 locs ls hP hD hS h4)
theorem y_aast (hX : yC X l R D ca A Qc mc ms cc nL own) {C : String} {T : u_T} {q0 qk t ci n i v a N : Nat} {ii : Int32} {vs : List Value} {f : Nat → Option Nat} (ht : (ztys ca)[t]? = some (ca t, .object C)) (hc : vwCl[ci]? = some (C, T, N)) (he : ws[q0]? = some (a, .inl (ca t, n, .inr (.inr (.inr (.inr f)))))) (hv : ws[qk]? = some (v, .inr (ci, vs))) (hi : vp_in ii n) (hii : ii.toNatClampNeg = i) (hws : ws.set q0 (a, .inl (ca t, n, .inr (.inr (.inr (.inr (va_up f i (some v))))))) = ws') (hd : decode cc pc = .ok (.aastore, 1)) (k : yV X nL ck sk ws' (pc + 1) lv st) : yV X nL ck sk ws pc lv (.ref v :: .int ii :: .ref a :: st) := by
  obtain ⟨p, l, e, R, s, mI, args, below, meth, cd, D, ca, A, Qc, mc, ms⟩ := X
  obtain ⟨rfl, rfl, rfl, rfl, rfl, rfl, rfl, rfl, hx, hb, hml, hown, hts, hK, hN, hA, hr, hlk, hin2⟩ := hX
  subst hws
  subst hii
  intro H locs ls h1 h2 h3 h4
  exact va_astq (r := (C, T, N)) hx hb hK h1 h2 h3 q0 t qk ci he ht hv hc hi hd (fun H1 locs1 hP hD hS => k H1 locs1 ls hP hD hS h4)
theorem y_vret (hX : yC X l R D ca A Qc mc ms cc nL own) {Post : va_W → Prop} (hQ : Qc = yQ D Post A) (hp : Post ws) (hmc : ck = mc ∧ sk = ms) (hd : decode cc pc = .ok (.return_, 1)) : yV X nL ck sk ws pc lv [] := by
  obtain ⟨p, l, e, R, s, mI, args, below, meth, cd, D, ca, A, Qc, mc, ms⟩ := X
  obtain ⟨rfl, rfl, rfl, rfl, rfl, rfl, rfl, rfl, hx, hb, hml, hown, hts, hK, hN, hA, hr, hlk, hin2⟩ := hX
  obtain ⟨rfl, rfl⟩ := hmc
  subst hQ
  intro H locs ls h1 h2 h3 h4
  exact W.vret hx hb hr (fun t ht hW => ⟨rfl, ⟨ws, hp, by rw [ht]; exact h1, h2⟩, h3.F ht⟩) h3.2.2 hd hlk
theorem y_goes {p : Program} {l : Launch} {e : Env} {R : Room} {s : State} {mI : MethodId} {args : Array Value} {below : List Frame} {meth : Method} {c : Code} {H : Heap} {locs : List Loc} {Q : State → Prop} {pc : Nat} {ls : Array Slot} {st0 rest : List Value} {D : va_G} {Post : va_W → Prop} {a : Array Value} {wr : va_W} {q : Nat} {e0 : va_E} {A : Nat → Prop} {ck sk mc ms : Nat}
    (hr : va_Run p l e R s mI args below meth c H locs ck sk mc ms (F0 mI pc ls st0) rest (yQ D Post (yA q H.size) a) (yA q H.size)) (hP : va_P D vwCl (wr ++ [(q, e0)]) H) (hD : va_D A (wr ++ [(q, e0)])) (hS : va_S A s.heap H locs) (hA : ∀ q, s.heap.size ≤ q → A q)
    (kk : ∀ (w1 : va_W) (H1 : Heap) (locs1 : List Loc), Post w1 → va_P D vwCl (wr ++ w1) H1 → va_D A (wr ++ w1) → va_S A s.heap H1 locs1 → W p l e R s mI args below meth c H1 locs1 (ck + mc) (sk + ms) Q (F0 mI (pc + 3) ls rest)) : W p l e R s mI args below meth c H locs ck sk Q (F0 mI pc ls st0) := by
  intro T hT X
  obtain ⟨v, st₀, t, T', L, h0, X', hL, e1, e2, ⟨hv, ⟨w1, hp, hP1, hD1⟩, hz, hk⟩, st⟩ := hr T hT X
  cases hv
  rw [h0] at hz hk
  have hq : (wr ++ [(q, e0)])[wr.length]? = some (q, e0) := by simp
  have hyA : ∀ x, yA q H.size x → A x := fun x hx => by
    rcases hx with rfl | hx
    · exact hD.2 _ _ hq
    · exact hA x (Nat.le_trans hS.1 hx)
  have hAA : ∀ x, va_A [(q, e0)] H.size x ↔ yA q H.size x := fun x => by
    constructor
    · rintro (⟨k, e, hk⟩ | hx)
      · have h1 := (List.getElem?_eq_some_iff.mp hk).1
        simp at h1
        subst h1
        cases hk
        exact Or.inl rfl
      · exact Or.inr hx
    · rintro (rfl | hx)
      · exact Or.inl ⟨0, e0, rfl⟩
      · exact Or.inr hx
  have hj := va_join (wc := [(q, e0)]) (wr := wr) (w1 := w1) (H1 := t.heap) hP hD [wr.length] (List.range wr.length) (by simp) (by
      apply List.ext_getElem?
      intro k
      by_cases hk : k < wr.length
      · simp [hk]
        rw [List.getElem?_append_left hk, List.getElem?_eq_getElem hk]
      · simp [hk]) (by
      have : ∀ n, va_nd (List.range n) = true := by
        intro n
        have hx : ∀ (l : List Nat), l.Nodup → va_nd l = true := by
          intro l hl
          induction l with
          | nil => rfl
          | cons a l ih =>
            simp only [va_nd, Bool.and_eq_true, decide_eq_true_eq]
            exact ⟨(List.nodup_cons.mp hl).1, ih (List.nodup_cons.mp hl).2⟩
        exact hx _ List.nodup_range
      exact this _) (by
      intro i hi
      have := List.mem_range.mp hi
      simp; omega) (fun x h1 h2 => hk x h1 (fun h => h2 ((hAA x).mpr h))) (fun x hx => hyA x ((hAA x).mp hx)) hP1 ⟨hD1.1, fun k x hk => (hAA _).mpr (hD1.2 k x hk)⟩
  obtain ⟨t2, a1, b1⟩ := kk w1 T'.heap (locs ++ L) hp (by rw [e1]; exact hj.1) hj.2
    ⟨Nat.le_trans hS.1 (by rw [e1]; exact hz), fun x h1 h2 => by rw [e1, hk x (Nat.lt_of_lt_of_le h1 hS.1) (fun z => h2 (hyA x z))]; exact hS.2.1 x h1 h2, fun x hx => by
      rcases List.mem_append.mp hx with h | h
      · exact hS.2.2 x h
      · exact hyA _ (hL x h)⟩ T' rfl X'
  exact ⟨t2, st t2 a1, b1⟩
def yMi (own : String) (ix : Nat) (y : MethodName) (cy : ByteArray) (ny : Nat) (n : Nat) : Prop := (Cond.instanceMethod y ∈ zW ∧ Cond.initialized y.cls ∈ zW ∧ Cond.code y cy ny none ∈ zW) ∧ y.name = "<init>" ∧ y.cls ≠ "java/lang/invoke/MethodHandle" ∧ y.cls ≠ "java/lang/invoke/VarHandle" ∧ (parseMethodDescriptor y.desc).map (fun d => d.parameters.length) = some n
theorem y_init (hX : yC X l R D ca A Qc mc ms cc nL own) {y : MethodName} {cy : ByteArray} {ny ix n q : Nat} {rm : Room} {wr : va_W} {e0 : va_E} {Post : va_W → Prop} {mc1 ms1 : Nat} {st0 : List Value} (As rest : List Value) (hM : yCt l D ca y cy ny rm q As e0 Post mc1 ms1) (hw1 : Cond.methodLink own ix y ∈ zW) (hw : yMi own ix y cy ny n) (hn : As.length = n) (hst : st0 = As.reverse ++ .ref q :: rest) (hrm : rm.cells = mc1 ∧ rm.slots = ms1) (hR : rm.frames + 1 ≤ R.frames ∧ 8 + (ny + 11) + rm.locals ≤ R.locals) (hR2 : ck + mc1 ≤ R.cells ∧ sk + ms1 ≤ R.slots) (hsum : (rest.map fun v => v.category).sum ≤ 8) (hd : decode cc pc = .ok (.invokespecial ix, 3)) (k : ∀ w1, Post w1 → yV X nL (ck + mc1) (sk + ms1) (wr ++ w1) (pc + 3) lv rest) : yV X nL ck sk (wr ++ [(q, e0)]) pc lv st0 := by
  obtain ⟨p, l, e, R, s, mI, args, below, meth, cd, D, ca, A, Qc, mc, ms⟩ := X
  obtain ⟨rfl, rfl, rfl, rfl, rfl, rfl, rfl, rfl, hx, hb, hml, hown, hts, hK, hN, hA, hr, hlk, hin2⟩ := hX
  obtain ⟨⟨w2, w4, w5⟩, hy1, hd1, hd2, hd3⟩ := hw
  intro H locs ls h1 h2 h3 h4
  have hq : (wr ++ [(q, e0)])[wr.length]? = some (q, e0) := by simp
  have hlt : q < H.size := (h1 _ _ hq).lt
  have hP9 : va_P D vwCl [(q, e0)] H := fun k x hk => by
    have h9 := (List.getElem?_eq_some_iff.mp hk).1
    simp at h9
    subst h9
    cases hk
    exact h1 _ _ hq
  exact y_goes (va_runI (Ts := zW) (As := As) (rest := rest) ⟨hx, hb, hml, hown, hts⟩ (hM H.size hlt) ⟨callB_of n hts (zW_code w5) rfl hrm.1 hrm.2 (hts _ w4) (hts _ hw1) ⟨hd1, hd2, hd3⟩ hR, hy1, hts _ w2⟩ ⟨fun a U g mk q => by obtain ⟨q0, q1, q2, q3, q4⟩ := q; exact ⟨q0, q1, q2, va_K.moved (u := U) (U := U.calling g mk a) (Vm.Alike.refl U.vm) q3, yN.same (u := U) (U := U.calling g mk a) rfl q4⟩, fun U hU hW => ⟨rfl, by rw [hU], by rw [hU]; exact hP9, va_K.moved hW.alike hK, yN.warm hW hN⟩⟩ rfl hn h4.1 hst (lv_room hsum) hd hR2) h1 h2 h3 hA (fun w1 H1 locs1 hp hP hD hS => k w1 hp H1 locs1 ls hP hD hS h4)
theorem y_initN (hX : yC X l R D ca A Qc mc ms cc nL own) {y : MethodName} {cy : ByteArray} {ny ix n q : Nat} {rm : Room} {wr : va_W} {e0 : va_E} {Post : va_W → Prop} {mc1 ms1 : Nat} {st0 : List Value} (As rest : List Value) (hM : yCt l D ca y cy ny rm q As e0 Post mc1 ms1) (hw1 : yN X.2.2.2.2.1 → va_Nw (.methodLinkNest own ix y "MirrorNodes") X.2.2.2.2.1) (hw : yMi own ix y cy ny n) (hn : As.length = n) (hst : st0 = As.reverse ++ .ref q :: rest) (hrm : rm.cells = mc1 ∧ rm.slots = ms1) (hR : rm.frames + 1 ≤ R.frames ∧ 8 + (ny + 11) + rm.locals ≤ R.locals) (hR2 : ck + mc1 ≤ R.cells ∧ sk + ms1 ≤ R.slots) (hsum : (rest.map fun v => v.category).sum ≤ 8) (hd : decode cc pc = .ok (.invokespecial ix, 3)) (k : ∀ w1, Post w1 → yV X nL (ck + mc1) (sk + ms1) (wr ++ w1) (pc + 3) lv rest) : yV X nL ck sk (wr ++ [(q, e0)]) pc lv st0 := by
  obtain ⟨p, l, e, R, s, mI, args, below, meth, cd, D, ca, A, Qc, mc, ms⟩ := X
  obtain ⟨rfl, rfl, rfl, rfl, rfl, rfl, rfl, rfl, hx, hb, hml, hown, hts, hK, hN, hA, hr, hlk, hin2⟩ := hX
  obtain ⟨⟨w2, w4, w5⟩, hy1, hd1, hd2, hd3⟩ := hw
  intro H locs ls h1 h2 h3 h4
  have hq : (wr ++ [(q, e0)])[wr.length]? = some (q, e0) := by simp
  have hlt : q < H.size := (h1 _ _ hq).lt
  have hP9 : va_P D vwCl [(q, e0)] H := fun k x hk => by
    have h9 := (List.getElem?_eq_some_iff.mp hk).1
    simp at h9
    subst h9
    cases hk
    exact h1 _ _ hq
  exact y_goes (va_runIN (Ts := zW) (As := As) (rest := rest) (host := "MirrorNodes") ⟨hx, hb, hml, hown, hts⟩ (hM H.size hlt) ⟨va_cnB n hts (zW_code w5) rfl hrm.1 hrm.2 (hw1 hN) (hts _ w4) ⟨hd1, hd2, hd3⟩ hR, hy1, hts _ w2⟩ ⟨fun a U g mk q => by obtain ⟨q0, q1, q2, q3, q4⟩ := q; exact ⟨q0, q1, q2, va_K.moved (u := U) (U := U.calling g mk a) (Vm.Alike.refl U.vm) q3, yN.same (u := U) (U := U.calling g mk a) rfl q4⟩, fun U hU hW => ⟨rfl, by rw [hU], by rw [hU]; exact hP9, va_K.moved hW.alike hK, yN.warm hW hN⟩⟩ rfl hn h4.1 hst (lv_room hsum) hd hR2) h1 h2 h3 hA (fun w1 H1 locs1 hp hP hD hS => k w1 hp H1 locs1 ls hP hD hS h4)
end YV
