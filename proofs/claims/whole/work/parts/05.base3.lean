/-! contracts and calls -/
def zPc (G : zG) (m : zM) (U : State) : Prop := zHold G m U.heap ∧ va_K G.1 G.2.1 G.2.2.1 U ∧ va_Nw zNest U
def zCt (l : Launch) (G : zG) (y : MethodName) (cc : ByteArray) (nL : Nat) (ret : Option FieldType) (rm : Room) (av : List Value) (m : zM) (v0 : Option Value) (m0 : zM) : Prop :=
  Met l y (Cond.code y cc nL ret :: zW) rm (va_Pc av (zPc G m)) (zQ G v0 m0) 0 0 (zA G)
theorem z_ofW {l : Launch} {y : MethodName} {ws ws' : List Cond} {rm : Room} {Pc : Array Value → State → Prop} {Qc : Array Value → State → Outcome → State → Prop} {mc ms : Nat} {free : Addr → Prop} {cc : ByteArray} {maxL : Nat} {ret : Option FieldType}
    (hy : plainFor y = true) (hw : ws = Cond.code y cc maxL ret :: ws')
    (body : ∀ p e s m args below meth c s₁, BodyLoose p l y (headSpec ws rm) cc maxL ret e s m args below meth c s₁ → c.maxLocals = maxL → Pc args s →
      W p l e (headSpec ws rm).room s m args below meth c s.heap [] 0 0 (MQ below Qc args s mc ms free) (entryFrame m args maxL)) : Met l y ws rm Pc Qc mc ms free := by
  refine MetFree.of_bodySF (code := cc) (maxLocals := maxL) (ret := ret) hy ?_ ?_
  · intro args s m h hn
    obtain ⟨meth, c, h1, h2, h3, h4, h5, h6, -, -⟩ := Cond.code_spec hn (atoms_spec (ws := ws) h _ (by rw [hw]; exact List.mem_cons_self))
    exact ⟨meth, c, h1, h2, h3, h4, h5, h6⟩
  · intro p e s m args below meth c s₁ B hml hP _
    have hh0 : s₁.heap = s.heap := by rw [B.state]; rfl
    obtain ⟨t, a1, o, b1, b2, b3⟩ := body p e s m args below meth c s₁ B hml hP s₁ hh0 (Stand.of_body B)
    exact ⟨t, o, a1, b1, b2, ⟨b3.1, b3.2⟩⟩
theorem z_of {l : Launch} {G : zG} {y : MethodName} {cc : ByteArray} {nL : Nat} {ret : Option FieldType} {rm : Room} {av : List Value} {m : zM} {v0 : Option Value} {m0 : zM} (hy : plainFor y = true) (hG : zGok G) (hn : (lg_sl av).length ≤ nL)
    (body : ∀ X : zXT, zC X l rm G v0 m0 cc nL y.cls ret → zV X nL m 0 (lv_args 0 av) []) : zCt l G y cc nL ret rm av m v0 m0 := by
  refine z_ofW (cc := cc) (maxL := nL) (ret := ret) hy rfl ?_
  intro p e s mI args below meth c s₁ B hml hv
  obtain ⟨rfl, hP, hK, hN⟩ := hv
  have hts := atoms_spec (ws := Cond.code y cc nL ret :: zW) B.pre
  have hown : s.vm.findClass y.cls = some mI.cls := findClass_of_methodNamed B.named
  have hl := lv_entry av (n := nL) hn
  rw [lg_entry_eq]
  exact body (p, l, e, rm, s, mI, av.toArray, below, meth, c, G, v0, m0) ⟨rfl, rfl, rfl, rfl, rfl, B.exec, B.bytes, hml, hown, fun w h => hts w (List.mem_cons_of_mem _ h), hK, ⟨hG, hN⟩, B.returns, B.notSynchronized⟩ s.heap [] _ hP va_S.rf hl
theorem zPc_blind {G : zG} {m : zM} {av : List Value} : FrameBlind (va_Pc av (zPc G m)) := fun a U g mk q => by
  obtain ⟨q0, q1, q2, q3⟩ := q
  exact ⟨q0, q1, va_K.moved (u := U) (U := U.calling g mk a) (Vm.Alike.refl U.vm) q2, va_Nw.same rfl (rfl : U.vm = (U.calling g mk a).vm) q3⟩
theorem z_goes {p : Program} {l : Launch} {e : Env} {R : Room} {s : State} {mI : MethodId} {args : Array Value} {below : List Frame} {meth : Method} {c : Code} {H : Heap} {locs : List Loc} {Q : State → Prop} {pc : Nat} {ls : Array Slot} {st0 rest : List Value} {G : zG} {v1 : Option Value} {m1 : zM} {a : Array Value}
    (hr : va_Run p l e R s mI args below meth c H locs 0 0 0 0 (F0 mI pc ls st0) rest (zQ G v1 m1 a) (zA G)) (hS : va_S (zA G) s.heap H locs)
    (kk : ∀ (H1 : Heap) (locs1 : List Loc), zHold G m1 H1 → va_S (zA G) s.heap H1 locs1 → W p l e R s mI args below meth c H1 locs1 0 0 Q (F0 mI (pc + 3) ls (v1.toList ++ rest))) : W p l e R s mI args below meth c H locs 0 0 Q (F0 mI pc ls st0) := by
  intro T hT X
  obtain ⟨v, st₀, t, T', L, h0, X', hL, e1, e2, ⟨hv, hh, hz, hk⟩, st⟩ := hr T hT X
  cases hv
  rw [h0] at hz hk
  obtain ⟨t2, a1, b1⟩ := kk T'.heap (locs ++ L) (by rw [e1]; exact hh)
    ⟨Nat.le_trans hS.1 (by rw [e1]; exact hz), fun q h1 h2 => by rw [e1, hk q (Nat.lt_of_lt_of_le h1 hS.1) h2]; exact hS.2.1 q h1 h2, fun q hq => by
      rcases List.mem_append.mp hq with h | h
      · exact hS.2.2 q h
      · exact hL q h⟩ T' rfl X'
  exact ⟨t2, st t2 a1, b1⟩
/-- what the tables say of a call's pool entry -/
def zMv (own : String) (ix ci : Nat) (y : MethodName) (cy : ByteArray) (ny : Nat) (ry : Option FieldType) (n : Nat) : Prop := (∃ T N, vwCl[ci]? = some (y.cls, T, N)) ∧ (Cond.methodLink own ix y ∈ zW ∧ Cond.instanceMethod y ∈ zW ∧ Cond.selects y.cls y y ∈ zW ∧ Cond.initialized y.cls ∈ zW ∧ Cond.code y cy ny ry ∈ zW) ∧ y.cls ≠ "java/lang/invoke/MethodHandle" ∧ y.cls ≠ "java/lang/invoke/VarHandle" ∧ (parseMethodDescriptor y.desc).map (fun d => d.parameters.length) = some n
def zMs (own : String) (ix : Nat) (y : MethodName) (cy : ByteArray) (ny : Nat) (ry : Option FieldType) (n : Nat) : Prop := (Cond.methodLink own ix y ∈ zW ∧ Cond.static y ∈ zW ∧ Cond.initialized y.cls ∈ zW ∧ Cond.code y cy ny ry ∈ zW) ∧ y.cls ≠ "java/lang/invoke/MethodHandle" ∧ y.cls ≠ "java/lang/invoke/VarHandle" ∧ (parseMethodDescriptor y.desc).map (fun d => d.parameters.length) = some n
theorem zW_code {y : MethodName} {cy : ByteArray} {ny : Nat} {ry : Option FieldType} (h : Cond.code y cy ny ry ∈ zW) : GoodIn zW (Cond.code y cy ny ry :: zW) := fun w hw => by
  rcases List.mem_cons.mp hw with rfl | hw
  · exact zW_good h
  · exact zW_good hw
section ZC
variable {X : zXT} {l : Launch} {R : Room} {G : zG} {v0 : Option Value} {m0 : zM} {cc : ByteArray} {nL : Nat} {own : String} {ret : Option FieldType}
variable {m m1 : zM} {pc : Nat} {lv lv' : List (Nat × Value)} {st0 : List Value} {y : MethodName} {cy : ByteArray} {ny : Nat} {ry : Option FieldType} {rm : Room} {ix ci n c : Nat} {r : Option Value} {fs : List Value}
theorem z_callVr (hX : zC X l R G v0 m0 cc nL own ret) {v : Value} (As rest : List Value) (hM : zCt l G y cy ny ry rm (.ref (G.2.2.2.2.2 c) :: As) m (some v) m1) (hcl : G.2.1 = vwCl) (hw : zMv own ix ci y cy ny ry n) (hc : c < G.2.2.2.1) (he : G.2.2.2.2.1 c (m c) = .inr (ci, fs)) (hn : As.length = n) (hst : st0 = As.reverse ++ .ref (G.2.2.2.2.2 c) :: rest) (hrm : rm.cells = 0 ∧ rm.slots = 0) (hR : rm.frames + 1 ≤ R.frames ∧ 8 + (ny + 11) + rm.locals ≤ R.locals) (hsum : (rest.map fun v => v.category).sum ≤ 8) (hd : decode cc pc = .ok (.invokevirtual ix, 3)) (k : zV X nL m1 (pc + 3) lv (v :: rest)) : zV X nL m pc lv st0 := by
  obtain ⟨p, l, e, R, s, mI, args, below, meth, cd, G, v0, m0⟩ := X
  obtain ⟨rfl, rfl, rfl, rfl, rfl, hx, hb, hml, hown, hts, hK, ⟨hok, hnw⟩, hr, hlk⟩ := hX
  obtain ⟨⟨T, N, hci⟩, ⟨w1, w2, w3, w4, w5⟩, hd1, hd2, hd3⟩ := hw
  intro H locs ls h1 h2 h3
  refine z_goes (va_runV (Ts := zW) (As := As) (rest := rest) ⟨hx, hb, hml, hown, hts⟩ hM ⟨callB_of n hts (zW_code w5) rfl hrm.1 hrm.2 (hts _ w4) (hts _ w1) ⟨hd1, hd2, hd3⟩ hR, hts _ w2, hts _ w3⟩ ⟨zPc_blind, va_recv hK h1 (ci := ci) (q0 := c) (by rw [hcl]; exact hci) (by rw [zws_get hc, he]), fun U hU hW => ⟨rfl, by rw [hU]; exact h1, va_K.moved hW.alike hK, va_Nw.warmM hW hnw⟩⟩ rfl hn h3.1 hst (lv_room hsum) hd ⟨Nat.zero_le _, Nat.zero_le _⟩) h2 (fun H1 locs1 hH hS => k H1 locs1 ls hH hS h3)
theorem z_callSr (hX : zC X l R G v0 m0 cc nL own ret) {v : Value} (As rest : List Value) (hM : zCt l G y cy ny ry rm As m (some v) m1) (hw : zMs own ix y cy ny ry n) (hn : As.length = n) (hst : st0 = As.reverse ++ rest) (hrm : rm.cells = 0 ∧ rm.slots = 0) (hR : rm.frames + 1 ≤ R.frames ∧ 8 + (ny + 11) + rm.locals ≤ R.locals) (hsum : (rest.map fun v => v.category).sum ≤ 8) (hd : decode cc pc = .ok (.invokestatic ix, 3)) (k : zV X nL m1 (pc + 3) lv (v :: rest)) : zV X nL m pc lv st0 := by
  obtain ⟨p, l, e, R, s, mI, args, below, meth, cd, G, v0, m0⟩ := X
  obtain ⟨rfl, rfl, rfl, rfl, rfl, hx, hb, hml, hown, hts, hK, ⟨hok, hnw⟩, hr, hlk⟩ := hX
  obtain ⟨⟨w1, w2, w4, w5⟩, hd1, hd2, hd3⟩ := hw
  intro H locs ls h1 h2 h3
  refine z_goes (va_runS (Ts := zW) (As := As) (rest := rest) ⟨hx, hb, hml, hown, hts⟩ hM ⟨callB_of n hts (zW_code w5) rfl hrm.1 hrm.2 (hts _ w4) (hts _ w1) ⟨hd1, hd2, hd3⟩ hR, hts _ w2⟩ ⟨zPc_blind, fun U hU hW => ⟨rfl, by rw [hU]; exact h1, va_K.moved hW.alike hK, va_Nw.warmM hW hnw⟩⟩ rfl hn h3.1 hst (lv_room hsum) hd ⟨Nat.zero_le _, Nat.zero_le _⟩) h2 (fun H1 locs1 hH hS => k H1 locs1 ls hH hS h3)
theorem z_callVv (hX : zC X l R G v0 m0 cc nL own ret) {v : Value} (As rest : List Value) (hM : zCt l G y cy ny ry rm (.ref (G.2.2.2.2.2 c) :: As) m none m1) (hcl : G.2.1 = vwCl) (hw : zMv own ix ci y cy ny ry n) (hc : c < G.2.2.2.1) (he : G.2.2.2.2.1 c (m c) = .inr (ci, fs)) (hn : As.length = n) (hst : st0 = As.reverse ++ .ref (G.2.2.2.2.2 c) :: rest) (hrm : rm.cells = 0 ∧ rm.slots = 0) (hR : rm.frames + 1 ≤ R.frames ∧ 8 + (ny + 11) + rm.locals ≤ R.locals) (hsum : (rest.map fun v => v.category).sum ≤ 8) (hd : decode cc pc = .ok (.invokevirtual ix, 3)) (k : zV X nL m1 (pc + 3) lv (rest)) : zV X nL m pc lv st0 := by
  obtain ⟨p, l, e, R, s, mI, args, below, meth, cd, G, v0, m0⟩ := X
  obtain ⟨rfl, rfl, rfl, rfl, rfl, hx, hb, hml, hown, hts, hK, ⟨hok, hnw⟩, hr, hlk⟩ := hX
  obtain ⟨⟨T, N, hci⟩, ⟨w1, w2, w3, w4, w5⟩, hd1, hd2, hd3⟩ := hw
  intro H locs ls h1 h2 h3
  refine z_goes (va_runV (Ts := zW) (As := As) (rest := rest) ⟨hx, hb, hml, hown, hts⟩ hM ⟨callB_of n hts (zW_code w5) rfl hrm.1 hrm.2 (hts _ w4) (hts _ w1) ⟨hd1, hd2, hd3⟩ hR, hts _ w2, hts _ w3⟩ ⟨zPc_blind, va_recv hK h1 (ci := ci) (q0 := c) (by rw [hcl]; exact hci) (by rw [zws_get hc, he]), fun U hU hW => ⟨rfl, by rw [hU]; exact h1, va_K.moved hW.alike hK, va_Nw.warmM hW hnw⟩⟩ rfl hn h3.1 hst (lv_room hsum) hd ⟨Nat.zero_le _, Nat.zero_le _⟩) h2 (fun H1 locs1 hH hS => k H1 locs1 ls hH hS h3)
theorem z_callSv (hX : zC X l R G v0 m0 cc nL own ret) {v : Value} (As rest : List Value) (hM : zCt l G y cy ny ry rm As m none m1) (hw : zMs own ix y cy ny ry n) (hn : As.length = n) (hst : st0 = As.reverse ++ rest) (hrm : rm.cells = 0 ∧ rm.slots = 0) (hR : rm.frames + 1 ≤ R.frames ∧ 8 + (ny + 11) + rm.locals ≤ R.locals) (hsum : (rest.map fun v => v.category).sum ≤ 8) (hd : decode cc pc = .ok (.invokestatic ix, 3)) (k : zV X nL m1 (pc + 3) lv (rest)) : zV X nL m pc lv st0 := by
  obtain ⟨p, l, e, R, s, mI, args, below, meth, cd, G, v0, m0⟩ := X
  obtain ⟨rfl, rfl, rfl, rfl, rfl, hx, hb, hml, hown, hts, hK, ⟨hok, hnw⟩, hr, hlk⟩ := hX
  obtain ⟨⟨w1, w2, w4, w5⟩, hd1, hd2, hd3⟩ := hw
  intro H locs ls h1 h2 h3
  refine z_goes (va_runS (Ts := zW) (As := As) (rest := rest) ⟨hx, hb, hml, hown, hts⟩ hM ⟨callB_of n hts (zW_code w5) rfl hrm.1 hrm.2 (hts _ w4) (hts _ w1) ⟨hd1, hd2, hd3⟩ hR, hts _ w2⟩ ⟨zPc_blind, fun U hU hW => ⟨rfl, by rw [hU]; exact h1, va_K.moved hW.alike hK, va_Nw.warmM hW hnw⟩⟩ rfl hn h3.1 hst (lv_room hsum) hd ⟨Nat.zero_le _, Nat.zero_le _⟩) h2 (fun H1 locs1 hH hS => k H1 locs1 ls hH hS h3)
theorem z_callN (hX : zC X l R G v0 m0 cc nL own ret) {v : Value} (As rest : List Value) (ho : own = RX4) (hix : ix = 32) (hy : y = yX5_isByte) (hM : zCt l G y cy ny ry rm As m (some v) m1) (hw : Cond.static y ∈ zW ∧ Cond.initialized y.cls ∈ zW ∧ Cond.code y cy ny ry ∈ zW) (hp : (parseMethodDescriptor y.desc).map (fun d => d.parameters.length) = some n) (hn : As.length = n) (hst : st0 = As.reverse ++ rest) (hrm : rm.cells = 0 ∧ rm.slots = 0) (hR : rm.frames + 1 ≤ R.frames ∧ 8 + (ny + 11) + rm.locals ≤ R.locals) (hsum : (rest.map fun v => v.category).sum ≤ 8) (hd : decode cc pc = .ok (.invokestatic ix, 3)) (k : zV X nL m1 (pc + 3) lv (v :: rest)) : zV X nL m pc lv st0 := by
  obtain ⟨p, l, e, R, s, mI, args, below, meth, cd, G, v0, m0⟩ := X
  obtain ⟨rfl, rfl, rfl, rfl, rfl, hx, hb, hml, hown, hts, hK, ⟨hok, hnw⟩, hr, hlk⟩ := hX
  obtain ⟨w2, w4, w5⟩ := hw
  subst ho; subst hix; subst hy
  intro H locs ls h1 h2 h3
  refine z_goes (va_runSN (Ts := zW) (As := As) (rest := rest) (host := "MirrorNodes") ⟨hx, hb, hml, hown, hts⟩ hM ⟨va_cnB n hts (zW_code w5) rfl hrm.1 hrm.2 hnw (hts _ w4) ⟨by decide +kernel, by decide +kernel, hp⟩ hR, hts _ w2, trivial⟩ ⟨zPc_blind, fun U hU hW => ⟨rfl, by rw [hU]; exact h1, va_K.moved hW.alike hK, va_Nw.warmM hW hnw⟩⟩ rfl hn h3.1 hst (lv_room hsum) hd ⟨Nat.zero_le _, Nat.zero_le _⟩) h2 (fun H1 locs1 hH hS => k H1 locs1 ls hH hS h3)
def zcp (f g : Int → Int) (sp dp n : Int) : Int → Int := fun j => if dp ≤ j ∧ j < dp + n then f (sp + (j - dp)) else g j
theorem zcp_nat {α : Type} (mk : Int → α) (f g : Int → Int) {sp dp n : Int} (h1 : 0 ≤ sp) (h2 : 0 ≤ dp) (h3 : 0 ≤ n) : (fun k : Nat => mk (zcp f g sp dp n (k : Int))) = va_cpy (fun k : Nat => mk (f (k : Int))) (fun k : Nat => mk (g (k : Int))) sp.toNat dp.toNat n.toNat := by
  funext k
  by_cases hk : dp ≤ (k : Int) ∧ (k : Int) < dp + n
  · have e : dp.toNat ≤ k ∧ k < dp.toNat + n.toNat := by omega
    simp only [zcp, va_cpy, if_pos hk, if_pos e]
    congr 2
    omega
  · have e : ¬ (dp.toNat ≤ k ∧ k < dp.toNat + n.toNat) := by omega
    simp only [zcp, va_cpy, if_neg hk, if_neg e]
def zMc (own : String) (ix : Nat) : Prop := Cond.methodLink own ix arraycopyName ∈ zW ∧ Cond.native arraycopyName ∈ zW ∧ Cond.static arraycopyName ∈ zW ∧ Cond.initialized "java/lang/System" ∈ zW
def zcg (sp dp n : Int) (n0 n1 : Int) : Prop := 0 ≤ sp ∧ 0 ≤ dp ∧ 0 ≤ n ∧ sp + n ≤ n0 ∧ dp + n ≤ n1
theorem z_copyi (hX : zC X l R G v0 m0 cc nL own ret) {c0 c1 n0 n1 : Nat} {sp dp n : Int} {rest : List Value} {m1 : zM} (ha0 : zInts G c0 n0) (ha1 : zInts G c1 n1) (hw : zMc own ix) (hg : zcg sp dp n n0 n1) (hm1 : m1 = zuc m c1 (zcp (m c0) (m c1) sp dp n)) (hR : 1 ≤ R.frames ∧ (rest.map fun v => v.category).sum + 18 ≤ R.locals) (hd : decode cc pc = .ok (.invokestatic ix, 3)) (k : zV X nL m1 (pc + 3) lv rest) : zV X nL m pc lv (.int (zI n) :: .int (zI dp) :: .ref (G.2.2.2.2.2 c1) :: .int (zI sp) :: .ref (G.2.2.2.2.2 c0) :: rest) := by
  obtain ⟨p, l, e, R, s, mI, args, below, meth, cd, G, v0, m0⟩ := X
  obtain ⟨rfl, rfl, rfl, rfl, rfl, hx, hb, hml, hown, hts, hK, ⟨hok, hnw⟩, hr, hlk⟩ := hX
  obtain ⟨hc0, hn0, cA0, ht0, he0⟩ := ha0
  obtain ⟨hc1, hn1, cA1, ht1, he1⟩ := ha1
  obtain ⟨w1, w2, w3, w4⟩ := hw
  obtain ⟨g1, g2, g3, g4, g5⟩ := hg
  subst hm1
  have e1 : (zI sp).toNatClampNeg = sp.toNat := zI_nat g1 (by omega)
  have e2 : (zI dp).toNatClampNeg = dp.toNat := zI_nat g2 (by omega)
  have e3 : (zI n).toNatClampNeg = n.toNat := zI_nat g3 (by omega)
  intro H locs ls h1 h2 h3
  refine va_copyi hx hb (hml.trans h3.1.symm) hown (hts _ w1) (hts _ w2) (hts _ w3) (hts _ w4) hK h1 (zws_D hok) h2 c0 c1 0 0 (by rw [zws_get hc0, he0]) (by rw [zws_get hc1, he1]) ht0 ht1 rfl (zI_nn g1 (by omega)) (zI_nn g2 (by omega)) (zI_nn g3 (by omega)) (by rw [e1, e3]; omega) (by rw [e2, e3]; omega) (fun _ _ => rfl) hR.1 hR.2 hd (fun H1 locs1 hP hD hS => ?_)
  rw [e1, e2, e3, ← zcp_nat zI (m c0) (m c1) g1 g2 g3] at hP
  have e : cA0 = cA1 := by rw [ht0] at ht1; cases ht1; rfl
  rw [← he1, zws_set hc1] at hP
  exact k H1 locs1 ls hP hS h3
theorem z_copyl (hX : zC X l R G v0 m0 cc nL own ret) {c0 c1 n0 n1 : Nat} {sp dp n : Int} {rest : List Value} {m1 : zM} (ha0 : zLongs G c0 n0) (ha1 : zLongs G c1 n1) (hw : zMc own ix) (hg : zcg sp dp n n0 n1) (hm1 : m1 = zuc m c1 (zcp (m c0) (m c1) sp dp n)) (hR : 1 ≤ R.frames ∧ (rest.map fun v => v.category).sum + 18 ≤ R.locals) (hd : decode cc pc = .ok (.invokestatic ix, 3)) (k : zV X nL m1 (pc + 3) lv rest) : zV X nL m pc lv (.int (zI n) :: .int (zI dp) :: .ref (G.2.2.2.2.2 c1) :: .int (zI sp) :: .ref (G.2.2.2.2.2 c0) :: rest) := by
  obtain ⟨p, l, e, R, s, mI, args, below, meth, cd, G, v0, m0⟩ := X
  obtain ⟨rfl, rfl, rfl, rfl, rfl, hx, hb, hml, hown, hts, hK, ⟨hok, hnw⟩, hr, hlk⟩ := hX
  obtain ⟨hc0, hn0, cA0, ht0, he0⟩ := ha0
  obtain ⟨hc1, hn1, cA1, ht1, he1⟩ := ha1
  obtain ⟨w1, w2, w3, w4⟩ := hw
  obtain ⟨g1, g2, g3, g4, g5⟩ := hg
  subst hm1
  have e1 : (zI sp).toNatClampNeg = sp.toNat := zI_nat g1 (by omega)
  have e2 : (zI dp).toNatClampNeg = dp.toNat := zI_nat g2 (by omega)
  have e3 : (zI n).toNatClampNeg = n.toNat := zI_nat g3 (by omega)
  intro H locs ls h1 h2 h3
  refine va_copyl hx hb (hml.trans h3.1.symm) hown (hts _ w1) (hts _ w2) (hts _ w3) (hts _ w4) hK h1 (zws_D hok) h2 c0 c1 1 1 (by rw [zws_get hc0, he0]) (by rw [zws_get hc1, he1]) ht0 ht1 rfl (zI_nn g1 (by omega)) (zI_nn g2 (by omega)) (zI_nn g3 (by omega)) (by rw [e1, e3]; omega) (by rw [e2, e3]; omega) (fun _ _ => rfl) hR.1 hR.2 hd (fun H1 locs1 hP hD hS => ?_)
  rw [e1, e2, e3, ← zcp_nat zJ (m c0) (m c1) g1 g2 g3] at hP
  have e : cA0 = cA1 := by rw [ht0] at ht1; cases ht1; rfl
  rw [← he1, zws_set hc1] at hP
  exact k H1 locs1 ls hP hS h3
theorem z_tswIn (hX : zC X l R G v0 m0 cc nL own ret) {a dflt hi : Int} {offs : Array Int} {len : Nat} {off : Int} {tgt : Nat} {st : List Value} (j : Nat) (hj : (zI a).toInt = (j : Int) ∧ (j : Int) ≤ hi) (hd : decode cc pc = .ok (.tableswitch dflt 0 hi offs, len)) (ho : offs[j]? = some off) (ht : (pc : Int) + off = (tgt : Int)) (k : zV X nL m tgt lv st) : zV X nL m pc lv (.int (zI a) :: st) := by
  obtain ⟨p, l, e, R, s, mI, args, below, meth, cd, G, v0, m0⟩ := X
  obtain ⟨rfl, rfl, rfl, rfl, rfl, hx, hb, hml, hown, hts, hK, ⟨hok, hnw⟩, hr, hlk⟩ := hX
  intro H locs ls h1 h2 h3
  exact lv_tableIn hx hb hd (by rw [hj.1]; omega) (by rw [hj.1]; have := hj.2; omega) (by rw [hj.1]; simpa using ho) ht (k H locs ls h1 h2 h3)
theorem z_tswOut (hX : zC X l R G v0 m0 cc nL own ret) {a dflt hi : Int} {offs : Array Int} {len : Nat} {tgt : Nat} {st : List Value} (hj : (zI a).toInt < 0 ∨ hi < (zI a).toInt) (hd : decode cc pc = .ok (.tableswitch dflt 0 hi offs, len)) (ht : (pc : Int) + dflt = (tgt : Int)) (k : zV X nL m tgt lv st) : zV X nL m pc lv (.int (zI a) :: st) := by
  obtain ⟨p, l, e, R, s, mI, args, below, meth, cd, G, v0, m0⟩ := X
  obtain ⟨rfl, rfl, rfl, rfl, rfl, hx, hb, hml, hown, hts, hK, ⟨hok, hnw⟩, hr, hlk⟩ := hX
  intro H locs ls h1 h2 h3
  exact lv_tableOut hx hb hd hj ht (k H locs ls h1 h2 h3)
end ZC
theorem z_out3 {a : Int} (h0 : ¬ zI a = zI 0) (h1 : ¬ zI a = zI 1) (h2 : ¬ zI a = zI 2) : (zI a).toInt < 0 ∨ 2 < (zI a).toInt := by
  by_cases h : (zI a).toInt < 0 ∨ 2 < (zI a).toInt
  · exact h
  · exfalso
    have e := zI_self (zI a)
    rcases (show (zI a).toInt = 0 ∨ (zI a).toInt = 1 ∨ (zI a).toInt = 2 by omega) with q | q | q
    · exact h0 (by rw [← e, q])
    · exact h1 (by rw [← e, q])
    · exact h2 (by rw [← e, q])
theorem z_out7 {a : Int} (h0 : ¬ zI a = zI 0) (h1 : ¬ zI a = zI 1) (h2 : ¬ zI a = zI 2) (h3 : ¬ zI a = zI 3) (h4 : ¬ zI a = zI 4) (h5 : ¬ zI a = zI 5) (h6 : ¬ zI a = zI 6) : (zI a).toInt < 0 ∨ 6 < (zI a).toInt := by
  by_cases h : (zI a).toInt < 0 ∨ 6 < (zI a).toInt
  · exact h
  · exfalso
    have e := zI_self (zI a)
    rcases (show (zI a).toInt = 0 ∨ (zI a).toInt = 1 ∨ (zI a).toInt = 2 ∨ (zI a).toInt = 3 ∨ (zI a).toInt = 4 ∨ (zI a).toInt = 5 ∨ (zI a).toInt = 6 by omega) with q | q | q | q | q | q | q
    · exact h0 (by rw [← e, q])
    · exact h1 (by rw [← e, q])
    · exact h2 (by rw [← e, q])
    · exact h3 (by rw [← e, q])
    · exact h4 (by rw [← e, q])
    · exact h5 (by rw [← e, q])
    · exact h6 (by rw [← e, q])
theorem z_out8 {a : Int} (h0 : ¬ zI a = zI 0) (h1 : ¬ zI a = zI 1) (h2 : ¬ zI a = zI 2) (h3 : ¬ zI a = zI 3) (h4 : ¬ zI a = zI 4) (h5 : ¬ zI a = zI 5) (h6 : ¬ zI a = zI 6) (h7 : ¬ zI a = zI 7) : (zI a).toInt < 0 ∨ 7 < (zI a).toInt := by
  by_cases h : (zI a).toInt < 0 ∨ 7 < (zI a).toInt
  · exact h
  · exfalso
    have e := zI_self (zI a)
    rcases (show (zI a).toInt = 0 ∨ (zI a).toInt = 1 ∨ (zI a).toInt = 2 ∨ (zI a).toInt = 3 ∨ (zI a).toInt = 4 ∨ (zI a).toInt = 5 ∨ (zI a).toInt = 6 ∨ (zI a).toInt = 7 by omega) with q | q | q | q | q | q | q | q
    · exact h0 (by rw [← e, q])
    · exact h1 (by rw [← e, q])
    · exact h2 (by rw [← e, q])
    · exact h3 (by rw [← e, q])
    · exact h4 (by rw [← e, q])
    · exact h5 (by rw [← e, q])
    · exact h6 (by rw [← e, q])
    · exact h7 (by rw [← e, q])
/-! what the pure words are made of -/
section ZP
variable {α β : Type}
def zfu : Nat := 4000
def zlp {γ : Type} (B : γ → γ) (z : γ) : Nat → γ
  | 0 => z
  | n + 1 => B (zlp B z n)
def zjn {γ : Type} (t : γ) (b : γ → Option α) : Option α := b t
theorem zjn_s {γ : Type} {t : γ} {b : γ → Option α} {q : α} (h : zjn t b = some q) (P : γ → Prop) (hP : P t) : ∃ j, P j ∧ b j = some q := ⟨t, hP, h⟩
def zrd (m : zM) (c : Nat) (i n : Int) (k : Int → Option α) : Option α := if 0 ≤ i ∧ i < n then k (m c i) else none
def zwr (m : zM) (c : Nat) (i v n : Int) (k : zM → Option α) : Option α := if 0 ≤ i ∧ i < n then k (zup m c i v) else none
def zpf (m : zM) (c : Nat) (i v : Int) (k : zM → Option α) : Option α := k (zup m c i v)
def zix (i n : Int) (k : Option α) : Option α := if 0 ≤ i ∧ i < n then k else none
def zcl (x : Option α) (k : α → Option β) : Option β := match x with | some a => k a | none => none
def zcl2 (x : Option (Int × zM)) (k : Int → zM → Option β) : Option β := match x with | some (a, m) => k a m | none => none
def zgd (g : Prop) [Decidable g] (k : Option α) : Option α := if g then k else none
def zcpy (m : zM) (c0 c1 : Nat) (sp dp n n0 n1 : Int) (k : zM → Option α) : Option α := if 0 ≤ sp ∧ 0 ≤ dp ∧ 0 ≤ n ∧ sp + n ≤ n0 ∧ dp + n ≤ n1 then k (zuc m c1 (zcp (m c0) (m c1) sp dp n)) else none
theorem zrd_s {m : zM} {c : Nat} {i n : Int} {k : Int → Option α} {q : α} (h : zrd m c i n k = some q) : ∃ x, x = m c i ∧ (0 ≤ i ∧ i < n) ∧ k x = some q := by
  unfold zrd at h
  split at h
  · exact ⟨_, rfl, by assumption, h⟩
  · cases h
theorem zwr_s {m : zM} {c : Nat} {i v n : Int} {k : zM → Option α} {q : α} (h : zwr m c i v n k = some q) : ∃ x, x = zup m c i v ∧ (0 ≤ i ∧ i < n) ∧ k x = some q := by
  unfold zwr at h
  split at h
  · exact ⟨_, rfl, by assumption, h⟩
  · cases h
theorem zpf_s {m : zM} {c : Nat} {i v : Int} {k : zM → Option α} {q : α} (h : zpf m c i v k = some q) : ∃ x, x = zup m c i v ∧ k x = some q := ⟨_, rfl, h⟩
theorem zix_s {i n : Int} {k : Option α} {q : α} (h : zix i n k = some q) : (0 ≤ i ∧ i < n) ∧ k = some q := by
  unfold zix at h
  split at h
  · exact ⟨by assumption, h⟩
  · cases h
theorem zcl_s {x : Option α} {k : α → Option β} {q : β} (h : zcl x k = some q) : ∃ a, x = some a ∧ k a = some q := by
  unfold zcl at h
  split at h
  · exact ⟨_, rfl, h⟩
  · cases h
theorem zcl2_s {x : Option (Int × zM)} {k : Int → zM → Option β} {q : β} (h : zcl2 x k = some q) : ∃ a m, x = some (a, m) ∧ k a m = some q := by
  unfold zcl2 at h
  split at h
  · exact ⟨_, _, rfl, h⟩
  · cases h
theorem zgd_s {g : Prop} [Decidable g] {k : Option α} {q : α} (h : zgd g k = some q) : g ∧ k = some q := by
  unfold zgd at h
  split at h
  · exact ⟨by assumption, h⟩
  · cases h
theorem zcpy_s {m : zM} {c0 c1 : Nat} {sp dp n n0 n1 : Int} {k : zM → Option α} {q : α} (h : zcpy m c0 c1 sp dp n n0 n1 k = some q) : ∃ x, x = zuc m c1 (zcp (m c0) (m c1) sp dp n) ∧ zcg sp dp n n0 n1 ∧ k x = some q := by
  unfold zcpy at h
  split at h
  · exact ⟨_, rfl, by assumption, h⟩
  · cases h
end ZP
