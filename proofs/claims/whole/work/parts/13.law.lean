/-! THE CLAIM OUT OF ONE WALK OF THE LAW'S BODY. Your part is whole_start (and what it stands on); all else here is the same for every law, but numbers. -/
def R_law : String := "MirrorNodesLaw"
def lw_P (b : Addr) (xs : List Int32) (args : Array Value) (s : State) : Prop := args = #[.ref b] ∧ s.IntsAt b xs ∧ xs.length ≤ 3072 ∧ (Jvm.Cond.and given_1 narrow_1).before args s = true
def lw_Q (_ : Array Value) (s : State) (o : Outcome) (t : State) : Prop := o = .returned (some (.int 1)) ∧ Framed s o t [] 600000 7302250
def lw_Z (below : List Frame) (a : Array Value) (s : State) : State → Prop := fun t => ∃ o, t.status = .running ∧ Ended t below o ∧ lw_Q a s o t
/-- the law's own end, with 1 on the stack, nothing written that was there before, its room as the claim has it -/
theorem lw_ret {p : Program} {l : Launch} {e : Env} {s : State} {m : MethodId} {below : List Frame} {meth : Method} {c : Code} {b : Nat} (hx : p.tables.exec = Jvm.exec) (hb : c.code = code) (hr : meth.sig.returnType = ret) (hlocks : meth.locks = false) {pc : Nat} {H : Heap} {ls : Array Slot} (hdg : decode code pc = .ok (.ireturn, 1)) : W p l e room_1 s m #[Value.ref b] below meth c H [] 600000 7302250 (lw_Z below #[Value.ref b] s) (F0 m pc ls [.int 1]) := by
  intro T hT X
  obtain ⟨fs, hret, hrun, hended, hW, hframe⟩ := X.leave (v := some (.int 1)) (hlocks := hlocks) (fun h => by rw [hr] at h; cases h)
  have hmeth' : T.vm.method? m = some meth := X.method'
  refine ⟨T.setFrames fs, ?_, .returned (some (.int 1)), hrun, hended, rfl, ⟨_, rfl⟩, hW, hframe⟩
  jvm_step X.here [X.here.top, hx, hb, hdg, hmeth', hr, ret, narrow_b1]
  (try refine ⟨rfl, ?_⟩); (try refine ⟨rfl, ?_⟩)
  first | (intro acts; rw [hret _ acts rfl rfl rfl]) | rw [hret _ _ rfl rfl rfl]
  exact Steps.refl _
/-- what holds at the law's entry: the machine, the code, the tables' words (any of lw_tbl by 'hts w (by decide +kernel)'), the script of L ints xs at the cell b, what the Statement gives of the start (any of its parts by flat_of_before) -/
def lw_At (p : Program) (s : State) (m : MethodId) (meth : Method) (c : Code) (b L : Nat) (xs : Nat → Int32) : Prop :=
  p.tables.exec = Jvm.exec ∧ c.code = code ∧ meth.sig.returnType = ret ∧ c.maxLocals = 4 ∧ s.vm.findClass R_law = some m.cls ∧ (∀ w ∈ lw_tbl, w.before #[Value.ref b] s = true) ∧ va_X b L xs s s.heap ∧ b < s.heap.size ∧ meth.locks = false ∧ (Jvm.Cond.and given_1 narrow_1).before #[Value.ref b] s = true

abbrev xXT : Type := Program × Launch × Env × State × MethodId × List Frame × Method × Code × Nat × Nat × (Nat → Int32) × va_G × (Nat → ClassId) × (Nat → Nat) × (Nat → Nat)
def xV : xXT → zM → zM → Nat → List (Nat × Value) → List Value → Prop
  | (p, l, e, s, mI, below, meth, c, b, _, _, D, ca, adC, adM), mC, mM, pc, lv, st => ∀ (H : Heap) (locs : List Loc) (ls : Array Slot), zHold (zGC D ca adC) mC H → zHold (zGM D ca adM) mM H → va_S (fun q => s.heap.size ≤ q) s.heap H locs → lv_has ls 4 lv → W p l e room_1 s mI #[Value.ref b] below meth c H locs 61 2690 (lw_Z below #[Value.ref b] s) (F0 mI pc ls st)
def xC : xXT → Launch → Nat → Nat → (Nat → Int32) → va_G → (Nat → ClassId) → (Nat → Nat) → (Nat → Nat) → Prop
  | (p, l, e, s, mI, below, meth, c, b, L, xs, D, ca, adC, adM), l', b', L', xs', D', ca', adC', adM' => l = l' ∧ b = b' ∧ L = L' ∧ xs = xs' ∧ D = D' ∧ ca = ca' ∧ adC = adC' ∧ adM = adM' ∧ p.tables.exec = Jvm.exec ∧ c.code = code ∧ meth.sig.returnType = ret ∧ c.maxLocals = 4 ∧ s.vm.findClass RL = some mI.cls ∧ (∀ w ∈ zW, w.before #[Value.ref b] s = true) ∧ va_X b L xs s s.heap ∧ b < s.heap.size ∧ meth.locks = false ∧ va_K D vwCl (ztys ca) s ∧ va_Nw zNest s ∧ zGok (zGC D ca adC) ∧ zGok (zGM D ca adM) ∧ (∀ q, zA (zGC D ca adC) q → s.heap.size ≤ q) ∧ (∀ q, zA (zGM D ca adM) q → s.heap.size ≤ q) ∧ (∀ q, zA (zGC D ca adC) q → ¬ zA (zGM D ca adM) q) ∧ L ≤ 3072
def xys (xs : Nat → Int32) (i : Int) : Int := (xs i.toNat).toInt
theorem xys_R (xs : Nat → Int32) (i : Int) : zR (xys xs i) := ⟨Int32.le_toInt _, Int32.toInt_lt _⟩
def xlw (a b : Int) : Int := (((zI a).toInt64 <<< ((32 : Int32).toInt64 &&& 63)) ||| ((zI b).toInt64 &&& 4294967295)).toInt
theorem zHold_kept {G : zG} {m : zM} {H H1 : Heap} {B : Nat → Prop} (h : zHold G m H) (hk : ∀ q : Nat, q < H.size → ¬ B q → H1[q]? = H[q]?) (hB : ∀ q, zA G q → ¬ B q) : zHold G m H1 := by
  intro k q hq
  have h9 := h k q hq
  obtain ⟨hk1, rfl⟩ := zws_at hq
  exact h9.kept (hk _ h9.lt (hB _ ⟨k, hk1, rfl⟩))
section XV
variable {X : xXT} {l : Launch} {b L : Nat} {xs : Nat → Int32} {D : va_G} {ca : Nat → ClassId} {adC adM : Nat → Nat}
variable {mC mM : zM} {pc : Nat} {lv lv' : List (Nat × Value)} {st : List Value}
theorem x_iconst (hX : xC X l b L xs D ca adC adM) {n : Int} (hd : decode cL_law pc = .ok (.iconst n, 1)) (k : xV X mC mM (pc + 1) lv (.int (zI n) :: st)) : xV X mC mM pc lv (st) := by
  obtain ⟨p, l, e, s, mI, below, meth, cd, b, L, xs, D, ca, adC, adM⟩ := X
  obtain ⟨rfl, rfl, rfl, rfl, rfl, rfl, rfl, rfl, hx, hb, hr, hml, hown, hts, hS0, hbl, hlk, hK, hnw, hgC, hgM, haC, haM, hdis, hL⟩ := hX
  exact fun H locs ls h1 h2 h3 h4 => lv_iconst hx hb hd rfl (k H locs ls h1 h2 h3 h4)
theorem x_bipush (hX : xC X l b L xs D ca adC adM) {n : Int} (hd : decode cL_law pc = .ok (.bipush n, 2)) (hv : (Int8.ofInt n).toInt32 = zI n) (k : xV X mC mM (pc + 2) lv (.int (zI n) :: st)) : xV X mC mM pc lv (st) := by
  obtain ⟨p, l, e, s, mI, below, meth, cd, b, L, xs, D, ca, adC, adM⟩ := X
  obtain ⟨rfl, rfl, rfl, rfl, rfl, rfl, rfl, rfl, hx, hb, hr, hml, hown, hts, hS0, hbl, hlk, hK, hnw, hgC, hgM, haC, haM, hdis, hL⟩ := hX
  exact fun H locs ls h1 h2 h3 h4 => lv_bipush hx hb hd hv (k H locs ls h1 h2 h3 h4)
theorem x_iload_n (hX : xC X l b L xs D ca adC adM) {n : Fin 4} {i : Nat} {x : Int32} (j : Nat) (hd : decode cL_law pc = .ok (.iload_n n, 1)) (hi : (n : Nat) = i) (hl : lv[j]? = some (i, .int x)) (k : xV X mC mM (pc + 1) lv (.int x :: st)) : xV X mC mM pc lv (st) := by
  obtain ⟨p, l, e, s, mI, below, meth, cd, b, L, xs, D, ca, adC, adM⟩ := X
  obtain ⟨rfl, rfl, rfl, rfl, rfl, rfl, rfl, rfl, hx, hb, hr, hml, hown, hts, hS0, hbl, hlk, hK, hnw, hgC, hgM, haC, haM, hdis, hL⟩ := hX
  exact fun H locs ls h1 h2 h3 h4 => lv_iload_n hx hb hd hi (lv_at h4 j hl) (k H locs ls h1 h2 h3 h4)
theorem x_aload_n (hX : xC X l b L xs D ca adC adM) {n : Fin 4} {i : Nat} {x : Nat} (j : Nat) (hd : decode cL_law pc = .ok (.aload_n n, 1)) (hi : (n : Nat) = i) (hl : lv[j]? = some (i, .ref x)) (k : xV X mC mM (pc + 1) lv (.ref x :: st)) : xV X mC mM pc lv (st) := by
  obtain ⟨p, l, e, s, mI, below, meth, cd, b, L, xs, D, ca, adC, adM⟩ := X
  obtain ⟨rfl, rfl, rfl, rfl, rfl, rfl, rfl, rfl, hx, hb, hr, hml, hown, hts, hS0, hbl, hlk, hK, hnw, hgC, hgM, haC, haM, hdis, hL⟩ := hX
  exact fun H locs ls h1 h2 h3 h4 => lv_aload_n hx hb hd hi (lv_at h4 j hl) (k H locs ls h1 h2 h3 h4)
theorem x_iadd (hX : xC X l b L xs D ca adC adM) {a c : Int} (hd : decode cL_law pc = .ok (.iadd, 1)) (k : xV X mC mM (pc + 1) lv (.int (zI (a + c)) :: st)) : xV X mC mM pc lv (.int (zI c) :: .int (zI a) :: st) := by
  obtain ⟨p, l, e, s, mI, below, meth, cd, b, L, xs, D, ca, adC, adM⟩ := X
  obtain ⟨rfl, rfl, rfl, rfl, rfl, rfl, rfl, rfl, hx, hb, hr, hml, hown, hts, hS0, hbl, hlk, hK, hnw, hgC, hgM, haC, haM, hdis, hL⟩ := hX
  exact fun H locs ls h1 h2 h3 h4 => lv_iadd hx hb hd (by rw [zI_add]; exact k H locs ls h1 h2 h3 h4)
theorem x_isub (hX : xC X l b L xs D ca adC adM) {a c : Int} (hd : decode cL_law pc = .ok (.isub, 1)) (k : xV X mC mM (pc + 1) lv (.int (zI (a - c)) :: st)) : xV X mC mM pc lv (.int (zI c) :: .int (zI a) :: st) := by
  obtain ⟨p, l, e, s, mI, below, meth, cd, b, L, xs, D, ca, adC, adM⟩ := X
  obtain ⟨rfl, rfl, rfl, rfl, rfl, rfl, rfl, rfl, hx, hb, hr, hml, hown, hts, hS0, hbl, hlk, hK, hnw, hgC, hgM, haC, haM, hdis, hL⟩ := hX
  exact fun H locs ls h1 h2 h3 h4 => lv_isub hx hb hd (by rw [zI_sub]; exact k H locs ls h1 h2 h3 h4)
theorem x_sld (hX : xC X l b L xs D ca adC adM) {i : Int} (hi : 0 ≤ i ∧ i < (L : Int)) (hd : decode cL_law pc = .ok (.iaload, 1)) (k : xV X mC mM (pc + 1) lv (.int (zI (xys xs i)) :: st)) : xV X mC mM pc lv (.int (zI i) :: .ref b :: st) := by
  obtain ⟨p, l, e, s, mI, below, meth, cd, b, L, xs, D, ca, adC, adM⟩ := X
  obtain ⟨rfl, rfl, rfl, rfl, rfl, rfl, rfl, rfl, hx, hb, hr, hml, hown, hts, hS0, hbl, hlk, hK, hnw, hgC, hgM, haC, haM, hdis, hL⟩ := hX
  intro H locs ls h1 h2 h3 h4
  refine va_sld (A := fun q => s.heap.size ≤ q) hx hb hS0 hbl (Nat.not_le.mpr hbl) h3 (zI_in (by omega) hi) hd ?_
  rw [zI_nat hi.1 (by omega)]
  have q := k H locs ls h1 h2 h3 h4
  rw [xys, zI_self] at q
  exact q
theorem x_slen (hX : xC X l b L xs D ca adC adM) (hd : decode cL_law pc = .ok (.arraylength, 1)) (k : xV X mC mM (pc + 1) lv (.int (zI (L : Int)) :: st)) : xV X mC mM pc lv (.ref b :: st) := by
  obtain ⟨p, l, e, s, mI, below, meth, cd, b, L, xs, D, ca, adC, adM⟩ := X
  obtain ⟨rfl, rfl, rfl, rfl, rfl, rfl, rfl, rfl, hx, hb, hr, hml, hown, hts, hS0, hbl, hlk, hK, hnw, hgC, hgM, haC, haM, hdis, hL⟩ := hX
  intro H locs ls h1 h2 h3 h4
  refine va_slen (A := fun q => s.heap.size ≤ q) hx hb hS0 hbl (Nat.not_le.mpr hbl) h3 hd ?_
  have q := k H locs ls h1 h2 h3 h4
  rw [zI, Int32.ofInt_eq_ofNat] at q
  exact q
theorem x_iinc (hX : xC X l b L xs D ca adC adM) {i : Nat} {n a : Int} (j : Nat) (hd : decode cL_law pc = .ok (.iinc i n, 3)) (hk : lv[j]? = some (i, .int (zI a))) (hn : i < 4) (hl : zs1 lv i (.int (zI (a + n))) = lv') (k : xV X mC mM (pc + 3) lv' st) : xV X mC mM pc lv st := by
  obtain ⟨p, l, e, s, mI, below, meth, cd, b, L, xs, D, ca, adC, adM⟩ := X
  obtain ⟨rfl, rfl, rfl, rfl, rfl, rfl, rfl, rfl, hx, hb, hr, hml, hown, hts, hS0, hbl, hlk, hK, hnw, hgC, hgM, haC, haM, hdis, hL⟩ := hX
  exact fun H locs ls h1 h2 h3 h4 => lv_iinc hx hb hd h4 hk (zI_add a n) hn hl (fun ls' h4 => k H locs ls' h1 h2 h3 h4)
theorem x_goto (hX : xC X l b L xs D ca adC adM) {off : Int} {tgt : Nat} (hd : decode cL_law pc = .ok (.goto off, 3)) (ht : (pc : Int) + off = (tgt : Int)) (k : xV X mC mM tgt lv st) : xV X mC mM pc lv st := by
  obtain ⟨p, l, e, s, mI, below, meth, cd, b, L, xs, D, ca, adC, adM⟩ := X
  obtain ⟨rfl, rfl, rfl, rfl, rfl, rfl, rfl, rfl, hx, hb, hr, hml, hown, hts, hS0, hbl, hlk, hK, hnw, hgC, hgM, haC, haM, hdis, hL⟩ := hX
  exact fun H locs ls h1 h2 h3 h4 => lv_goto hx hb hd ht (k H locs ls h1 h2 h3 h4)
theorem x_gt (hX : xC X l b L xs D ca adC adM) {a c : Int} {off : Int} {tgt : Nat} (hd : decode cL_law pc = .ok (.if_icmp .gt off, 3)) (ht : (pc : Int) + off = (tgt : Int)) (kt : zI c < zI a → xV X mC mM tgt lv st) (kf : ¬ zI c < zI a → xV X mC mM (pc + 3) lv st) : xV X mC mM pc lv (.int (zI c) :: .int (zI a) :: st) := by
  obtain ⟨p, l, e, s, mI, below, meth, cd, b, L, xs, D, ca, adC, adM⟩ := X
  obtain ⟨rfl, rfl, rfl, rfl, rfl, rfl, rfl, rfl, hx, hb, hr, hml, hown, hts, hS0, hbl, hlk, hK, hnw, hgC, hgM, haC, haM, hdis, hL⟩ := hX
  exact fun H locs ls h1 h2 h3 h4 => lv_icmp_gt hx hb hd ht (fun q => kt q H locs ls h1 h2 h3 h4) (fun q => kf q H locs ls h1 h2 h3 h4)
theorem x_eq (hX : xC X l b L xs D ca adC adM) {a : Int} {off : Int} {tgt : Nat} (hd : decode cL_law pc = .ok (.if_icmp .eq off, 3)) (ht : (pc : Int) + off = (tgt : Int)) (k : xV X mC mM tgt lv st) : xV X mC mM pc lv (.int (zI a) :: .int (zI a) :: st) := by
  obtain ⟨p, l, e, s, mI, below, meth, cd, b, L, xs, D, ca, adC, adM⟩ := X
  obtain ⟨rfl, rfl, rfl, rfl, rfl, rfl, rfl, rfl, hx, hb, hr, hml, hown, hts, hS0, hbl, hlk, hK, hnw, hgC, hgM, haC, haM, hdis, hL⟩ := hX
  exact fun H locs ls h1 h2 h3 h4 => lv_icmp_eq hx hb hd ht (fun _ => k H locs ls h1 h2 h3 h4) (fun q => absurd rfl q)
theorem x_lcmp (hX : xC X l b L xs D ca adC adM) {a : Int} {off : Int} {tgt : Nat} (hd0 : decode cL_law pc = .ok (.lcmp, 1)) (hd : decode cL_law (pc + 1) = .ok (.ifCond .eq off, 3)) (ht : ((pc + 1 : Nat) : Int) + off = (tgt : Int)) (k : xV X mC mM tgt lv st) : xV X mC mM pc lv (.long (zJ a) :: .long (zJ a) :: st) := by
  obtain ⟨p, l, e, s, mI, below, meth, cd, b, L, xs, D, ca, adC, adM⟩ := X
  obtain ⟨rfl, rfl, rfl, rfl, rfl, rfl, rfl, rfl, hx, hb, hr, hml, hown, hts, hS0, hbl, hlk, hK, hnw, hgC, hgM, haC, haM, hdis, hL⟩ := hX
  exact fun H locs ls h1 h2 h3 h4 => W.lcmp hx hb hd0 (lv_if_eq hx hb hd ht (fun _ => k H locs ls h1 h2 h3 h4) (fun q => absurd ((zl_eq _ _).mpr rfl) q))
theorem x_and (hX : xC X l b L xs D ca adC adM) {a : Int} (hd : decode cL_law pc = .ok (.iand, 1)) (k : xV X mC mM (pc + 1) lv (.int (zI a &&& zI 31) :: st)) : xV X mC mM pc lv (.int (zI 31) :: .int (zI a) :: st) := by
  obtain ⟨p, l, e, s, mI, below, meth, cd, b, L, xs, D, ca, adC, adM⟩ := X
  obtain ⟨rfl, rfl, rfl, rfl, rfl, rfl, rfl, rfl, hx, hb, hr, hml, hown, hts, hS0, hbl, hlk, hK, hnw, hgC, hgM, haC, haM, hdis, hL⟩ := hX
  exact fun H locs ls h1 h2 h3 h4 => lv_iand hx hb hd (k H locs ls h1 h2 h3 h4)
theorem x_tabIn (hX : xC X l b L xs D ca adC adM) {x : Int32} {off : Int} {tgt : Nat} {offs : Array Int} {d : Int} (j : Nat) (hj : x.toInt = (j : Int) ∧ j ≤ 30) (hd : decode cL_law pc = .ok (.tableswitch d 0 30 offs, 139)) (ho : offs[j]? = some off) (ht : (pc : Int) + off = (tgt : Int)) (k : xV X mC mM tgt lv st) : xV X mC mM pc lv (.int x :: st) := by
  obtain ⟨p, l, e, s, mI, below, meth, cd, b, L, xs, D, ca, adC, adM⟩ := X
  obtain ⟨rfl, rfl, rfl, rfl, rfl, rfl, rfl, rfl, hx, hb, hr, hml, hown, hts, hS0, hbl, hlk, hK, hnw, hgC, hgM, haC, haM, hdis, hL⟩ := hX
  intro H locs ls h1 h2 h3 h4
  exact lv_tableIn hx hb hd (by rw [hj.1]; omega) (by rw [hj.1]; have := hj.2; omega) (by rw [hj.1]; simpa using ho) ht (k H locs ls h1 h2 h3 h4)
theorem x_tabOut (hX : xC X l b L xs D ca adC adM) {x : Int32} {tgt : Nat} {offs : Array Int} {d : Int} (hj : x.toInt < 0 ∨ 30 < x.toInt) (hd : decode cL_law pc = .ok (.tableswitch d 0 30 offs, 139)) (ht : (pc : Int) + d = (tgt : Int)) (k : xV X mC mM tgt lv st) : xV X mC mM pc lv (.int x :: st) := by
  obtain ⟨p, l, e, s, mI, below, meth, cd, b, L, xs, D, ca, adC, adM⟩ := X
  obtain ⟨rfl, rfl, rfl, rfl, rfl, rfl, rfl, rfl, hx, hb, hr, hml, hown, hts, hS0, hbl, hlk, hK, hnw, hgC, hgM, haC, haM, hdis, hL⟩ := hX
  intro H locs ls h1 h2 h3 h4
  exact lv_tableOut hx hb hd hj ht (k H locs ls h1 h2 h3 h4)
theorem x_long1 (hX : xC X l b L xs D ca adC adM) {a : Int} (hd0 : decode cL_law pc = .ok (.i2l, 1)) (hd1 : decode cL_law (pc + 1) = .ok (.bipush 32, 2)) (hd2 : decode cL_law (pc + 3) = .ok (.lshl, 1)) (k : xV X mC mM (pc + 4) lv (.long ((zI a).toInt64 <<< ((32 : Int32).toInt64 &&& 63)) :: st)) : xV X mC mM pc lv (.int (zI a) :: st) := by
  obtain ⟨p, l, e, s, mI, below, meth, cd, b, L, xs, D, ca, adC, adM⟩ := X
  obtain ⟨rfl, rfl, rfl, rfl, rfl, rfl, rfl, rfl, hx, hb, hr, hml, hown, hts, hS0, hbl, hlk, hK, hnw, hgC, hgM, haC, haM, hdis, hL⟩ := hX
  exact fun H locs ls h1 h2 h3 h4 => lv_i2l hx hb hd0 rfl (lv_bipush (v := 32) hx hb hd1 (by decide +kernel) (lv_lshl hx hb hd2 rfl (k H locs ls h1 h2 h3 h4)))
theorem x_long2 (hX : xC X l b L xs D ca adC adM) {a c : Int} (hd0 : decode cL_law pc = .ok (.i2l, 1)) (hw : Cond.constantLong RL 121 4294967295 ∈ zW) (hd1 : decode cL_law (pc + 1) = .ok (.ldc2_w 121, 3)) (hd2 : decode cL_law (pc + 4) = .ok (.land, 1)) (hd3 : decode cL_law (pc + 5) = .ok (.lor, 1)) (k : xV X mC mM (pc + 6) lv (.long (zJ (xlw a c)) :: st)) : xV X mC mM pc lv (.int (zI c) :: .long ((zI a).toInt64 <<< ((32 : Int32).toInt64 &&& 63)) :: st) := by
  obtain ⟨p, l, e, s, mI, below, meth, cd, b, L, xs, D, ca, adC, adM⟩ := X
  obtain ⟨rfl, rfl, rfl, rfl, rfl, rfl, rfl, rfl, hx, hb, hr, hml, hown, hts, hS0, hbl, hlk, hK, hnw, hgC, hgM, haC, haM, hdis, hL⟩ := hX
  intro H locs ls h1 h2 h3 h4
  refine lv_i2l hx hb hd0 rfl (lv_ldc2 hx hb hown (hts _ hw) hd1 (lv_land hx hb hd2 (lv_lor hx hb hd3 ?_)))
  have q := k H locs ls h1 h2 h3 h4
  rw [xlw, zJ_self] at q
  exact q
theorem x_callC (hX : xC X l b L xs D ca adC adM) {y : MethodName} {cy : ByteArray} {ny : Nat} {ry : Option FieldType} {rm : Room} {ix n : Nat} {v : Value} {m1 : zM} {st0 : List Value} (As rest : List Value) (hM : zCt l (zGC D ca adC) y cy ny ry rm (.ref (adC 0) :: As) mC (some v) m1) (hw : zMv RL ix 5 y cy ny ry n) (hn : As.length = n) (hst : st0 = As.reverse ++ .ref (adC 0) :: rest) (hrm : rm.cells = 0 ∧ rm.slots = 0) (hR : rm.frames + 1 ≤ 9 ∧ 8 + (ny + 11) + rm.locals ≤ 344) (hsum : (rest.map fun v => v.category).sum ≤ 8) (hd : decode cL_law pc = .ok (.invokevirtual ix, 3)) (k : xV X m1 mM (pc + 3) lv (v :: rest)) : xV X mC mM pc lv st0 := by
  obtain ⟨p, l, e, s, mI, below, meth, cd, b, L, xs, D, ca, adC, adM⟩ := X
  obtain ⟨rfl, rfl, rfl, rfl, rfl, rfl, rfl, rfl, hx, hb, hr, hml, hown, hts, hS0, hbl, hlk, hK, hnw, hgC, hgM, haC, haM, hdis, hL⟩ := hX
  obtain ⟨⟨T, N, hci⟩, ⟨w1, w2, w3, w4, w5⟩, hd1, hd2, hd3⟩ := hw
  intro H locs ls h1 h2 h3 h4
  refine zz_goes (G := zGC D ca adC) (va_runV (Ts := zW) (As := As) (rest := rest) ⟨hx, hb, hml, hown, hts⟩ hM ⟨callB_of n hts (zW_code w5) rfl hrm.1 hrm.2 (hts _ w4) (hts _ w1) ⟨hd1, hd2, hd3⟩ hR, hts _ w2, hts _ w3⟩ ⟨zPc_blind, va_recv hK h1 (ci := 5) (q0 := 0) hci (zws_get (c := 0) (Nat.le_of_ble_eq_true rfl)), fun U hU hW => ⟨rfl, by rw [hU]; exact h1, va_K.moved hW.alike hK, va_Nw.warmM hW hnw⟩⟩ rfl hn h4.1 hst (lv_room hsum) hd ⟨by decide, by decide⟩) h3 haC (fun H1 locs1 hH hz hk hS => k H1 locs1 ls hH (zHold_kept h2 hk (fun q hq hq2 => hdis q hq2 hq)) hS h4)
theorem x_callM (hX : xC X l b L xs D ca adC adM) {y : MethodName} {cy : ByteArray} {ny : Nat} {ry : Option FieldType} {rm : Room} {ix n : Nat} {v : Value} {m1 : zM} {st0 : List Value} (As rest : List Value) (hM : zCt l (zGM D ca adM) y cy ny ry rm (.ref (adM 0) :: As) mM (some v) m1) (hw : zMv RL ix 6 y cy ny ry n) (hn : As.length = n) (hst : st0 = As.reverse ++ .ref (adM 0) :: rest) (hrm : rm.cells = 0 ∧ rm.slots = 0) (hR : rm.frames + 1 ≤ 9 ∧ 8 + (ny + 11) + rm.locals ≤ 344) (hsum : (rest.map fun v => v.category).sum ≤ 8) (hd : decode cL_law pc = .ok (.invokevirtual ix, 3)) (k : xV X mC m1 (pc + 3) lv (v :: rest)) : xV X mC mM pc lv st0 := by
  obtain ⟨p, l, e, s, mI, below, meth, cd, b, L, xs, D, ca, adC, adM⟩ := X
  obtain ⟨rfl, rfl, rfl, rfl, rfl, rfl, rfl, rfl, hx, hb, hr, hml, hown, hts, hS0, hbl, hlk, hK, hnw, hgC, hgM, haC, haM, hdis, hL⟩ := hX
  obtain ⟨⟨T, N, hci⟩, ⟨w1, w2, w3, w4, w5⟩, hd1, hd2, hd3⟩ := hw
  intro H locs ls h1 h2 h3 h4
  refine zz_goes (G := zGM D ca adM) (va_runV (Ts := zW) (As := As) (rest := rest) ⟨hx, hb, hml, hown, hts⟩ hM ⟨callB_of n hts (zW_code w5) rfl hrm.1 hrm.2 (hts _ w4) (hts _ w1) ⟨hd1, hd2, hd3⟩ hR, hts _ w2, hts _ w3⟩ ⟨zPc_blind, va_recv hK h2 (ci := 6) (q0 := 0) hci (zws_get (c := 0) (Nat.le_of_ble_eq_true rfl)), fun U hU hW => ⟨rfl, by rw [hU]; exact h2, va_K.moved hW.alike hK, va_Nw.warmM hW hnw⟩⟩ rfl hn h4.1 hst (lv_room hsum) hd ⟨by decide, by decide⟩) h3 haM (fun H1 locs1 hH hz hk hS => k H1 locs1 ls (zHold_kept h1 hk (fun q hq hq2 => hdis q hq hq2)) hH hS h4)
theorem x_ret (hX : xC X l b L xs D ca adC adM) (hd : decode cL_law pc = .ok (.ireturn, 1)) : xV X mC mM pc lv [.int (zI 1)] := by
  obtain ⟨p, l, e, s, mI, below, meth, cd, b, L, xs, D, ca, adC, adM⟩ := X
  obtain ⟨rfl, rfl, rfl, rfl, rfl, rfl, rfl, rfl, hx, hb, hr, hml, hown, hts, hS0, hbl, hlk, hK, hnw, hgC, hgM, haC, haM, hdis, hL⟩ := hX
  intro H locs ls h1 h2 h3 h4
  refine va_forget h3.2.2 (W.widen (k := 600000) (n := 7302250) (by decide) (by decide) ?_)
  exact lw_ret hx hb hr hlk hd
end XV
abbrev zRl (x : Int) : Prop := -9223372036854775808 ≤ x ∧ x < 9223372036854775808
theorem xlw_R (a b : Int) : zRl (xlw a b) := ⟨Int64.le_toInt _, Int64.toInt_lt _⟩
def zS_put (Rel : zM → zM → Prop) (mC mM : zM) : Prop := ∀ a1 : Int, zR a1 → ∃ (r : Int) (mC1 : zM) (mM1 : zM), FX5_put a1 mC = some (r, mC1) ∧ FX6_put a1 mM = some (r, mM1) ∧ Rel mC1 mM1
theorem lc_put {Rel : zM → zM → Prop} {X : xXT} {l : Launch} {b L : Nat} {xs : Nat → Int32} {D : va_G} {ca : Nat → ClassId} {adC adM : Nat → Nat} {mC mM : zM} (hX : xC X l b L xs D ca adC adM) (hGC : zGok (zGC D ca adC)) (hGM : zGok (zGM D ca adM)) {i : Int} (hi : 0 ≤ i ∧ i + 6 ≤ (L : Int)) (h : zS_put Rel mC mM) (k : ∀ mC1 mM1, Rel mC1 mM1 → xV X mC1 mM1 1146 [(0, .ref b), (1, .ref (adC 0)), (2, .ref (adM 0)), (3, .int (zI i))] []) : xV X mC mM 172 [(0, .ref b), (1, .ref (adC 0)), (2, .ref (adM 0)), (3, .int (zI i))] [] := by
  obtain ⟨r, mC1, mM1, e1, e2, hrel⟩ := h (xys xs (i + 1)) (xys_R _ _)
  refine x_aload_n (pc := 172) hX 1 dL_law_172 rfl rfl ?_
  refine x_aload_n (pc := 173) hX 0 dL_law_173 rfl rfl ?_
  refine x_iload_n (pc := 174) hX 3 dL_law_174 rfl rfl ?_
  refine x_iconst (pc := 175) hX dL_law_175 ?_
  refine x_iadd (pc := 176) hX dL_law_176 ?_
  refine x_sld (pc := 177) (i := (i + 1)) hX ⟨by omega, by omega⟩ dL_law_177 ?_
  refine x_callC (pc := 178) hX [.int (zI (xys xs (i + 1)))] [] (wX5_put (ca := ca) hGC e1) zmv_RL_13 rfl rfl ⟨rfl, rfl⟩ ⟨by decide, by decide⟩ (Nat.le_of_ble_eq_true rfl) dL_law_178 ?_
  refine x_aload_n (pc := 181) hX 2 dL_law_181 rfl rfl ?_
  refine x_aload_n (pc := 182) hX 0 dL_law_182 rfl rfl ?_
  refine x_iload_n (pc := 183) hX 3 dL_law_183 rfl rfl ?_
  refine x_iconst (pc := 184) hX dL_law_184 ?_
  refine x_iadd (pc := 185) hX dL_law_185 ?_
  refine x_sld (pc := 186) (i := (i + 1)) hX ⟨by omega, by omega⟩ dL_law_186 ?_
  refine x_callM (pc := 187) hX [.int (zI (xys xs (i + 1)))] [.int (zI r)] (wX6_put (ca := ca) hGM e2) zmv_RL_17 rfl rfl ⟨rfl, rfl⟩ ⟨by decide, by decide⟩ (Nat.le_of_ble_eq_true rfl) dL_law_187 ?_
  refine x_eq (pc := 190) (tgt := 1146) hX dL_law_190 (by decide) ?_
  exact k _ _ hrel
def zS_pop (Rel : zM → zM → Prop) (mC mM : zM) : Prop := ∃ (r : Int) (mC1 : zM) (mM1 : zM), FX5_pop  mC = some (r, mC1) ∧ FX6_pop  mM = some (r, mM1) ∧ Rel mC1 mM1
theorem lc_pop {Rel : zM → zM → Prop} {X : xXT} {l : Launch} {b L : Nat} {xs : Nat → Int32} {D : va_G} {ca : Nat → ClassId} {adC adM : Nat → Nat} {mC mM : zM} (hX : xC X l b L xs D ca adC adM) (hGC : zGok (zGC D ca adC)) (hGM : zGok (zGM D ca adM)) {i : Int} (hi : 0 ≤ i ∧ i + 6 ≤ (L : Int)) (h : zS_pop Rel mC mM) (k : ∀ mC1 mM1, Rel mC1 mM1 → xV X mC1 mM1 1146 [(0, .ref b), (1, .ref (adC 0)), (2, .ref (adM 0)), (3, .int (zI i))] []) : xV X mC mM 195 [(0, .ref b), (1, .ref (adC 0)), (2, .ref (adM 0)), (3, .int (zI i))] [] := by
  obtain ⟨r, mC1, mM1, e1, e2, hrel⟩ := h 
  refine x_aload_n (pc := 195) hX 1 dL_law_195 rfl rfl ?_
  refine x_callC (pc := 196) hX [] [] (wX5_pop (ca := ca) hGC e1) zmv_RL_18 rfl rfl ⟨rfl, rfl⟩ ⟨by decide, by decide⟩ (Nat.le_of_ble_eq_true rfl) dL_law_196 ?_
  refine x_aload_n (pc := 199) hX 2 dL_law_199 rfl rfl ?_
  refine x_callM (pc := 200) hX [] [.int (zI r)] (wX6_pop (ca := ca) hGM e2) zmv_RL_22 rfl rfl ⟨rfl, rfl⟩ ⟨by decide, by decide⟩ (Nat.le_of_ble_eq_true rfl) dL_law_200 ?_
  refine x_eq (pc := 203) (tgt := 1146) hX dL_law_203 (by decide) ?_
  exact k _ _ hrel
def zS_change (Rel : zM → zM → Prop) (mC mM : zM) : Prop := ∀ a1 : Int, zR a1 → ∀ a2 : Int, zR a2 → ∃ (r : Int) (mC1 : zM) (mM1 : zM), FX5_change a1 a2 mC = some (r, mC1) ∧ FX6_change a1 a2 mM = some (r, mM1) ∧ Rel mC1 mM1
theorem lc_change {Rel : zM → zM → Prop} {X : xXT} {l : Launch} {b L : Nat} {xs : Nat → Int32} {D : va_G} {ca : Nat → ClassId} {adC adM : Nat → Nat} {mC mM : zM} (hX : xC X l b L xs D ca adC adM) (hGC : zGok (zGC D ca adC)) (hGM : zGok (zGM D ca adM)) {i : Int} (hi : 0 ≤ i ∧ i + 6 ≤ (L : Int)) (h : zS_change Rel mC mM) (k : ∀ mC1 mM1, Rel mC1 mM1 → xV X mC1 mM1 1146 [(0, .ref b), (1, .ref (adC 0)), (2, .ref (adM 0)), (3, .int (zI i))] []) : xV X mC mM 208 [(0, .ref b), (1, .ref (adC 0)), (2, .ref (adM 0)), (3, .int (zI i))] [] := by
  obtain ⟨r, mC1, mM1, e1, e2, hrel⟩ := h (xys xs (i + 1)) (xys_R _ _) (xys xs (i + 2)) (xys_R _ _)
  refine x_aload_n (pc := 208) hX 1 dL_law_208 rfl rfl ?_
  refine x_aload_n (pc := 209) hX 0 dL_law_209 rfl rfl ?_
  refine x_iload_n (pc := 210) hX 3 dL_law_210 rfl rfl ?_
  refine x_iconst (pc := 211) hX dL_law_211 ?_
  refine x_iadd (pc := 212) hX dL_law_212 ?_
  refine x_sld (pc := 213) (i := (i + 1)) hX ⟨by omega, by omega⟩ dL_law_213 ?_
  refine x_aload_n (pc := 214) hX 0 dL_law_214 rfl rfl ?_
  refine x_iload_n (pc := 215) hX 3 dL_law_215 rfl rfl ?_
  refine x_iconst (pc := 216) hX dL_law_216 ?_
  refine x_iadd (pc := 217) hX dL_law_217 ?_
  refine x_sld (pc := 218) (i := (i + 2)) hX ⟨by omega, by omega⟩ dL_law_218 ?_
  refine x_callC (pc := 219) hX [.int (zI (xys xs (i + 1))), .int (zI (xys xs (i + 2)))] [] (wX5_change (ca := ca) hGC e1) zmv_RL_23 rfl rfl ⟨rfl, rfl⟩ ⟨by decide, by decide⟩ (Nat.le_of_ble_eq_true rfl) dL_law_219 ?_
  refine x_aload_n (pc := 222) hX 2 dL_law_222 rfl rfl ?_
  refine x_aload_n (pc := 223) hX 0 dL_law_223 rfl rfl ?_
  refine x_iload_n (pc := 224) hX 3 dL_law_224 rfl rfl ?_
  refine x_iconst (pc := 225) hX dL_law_225 ?_
  refine x_iadd (pc := 226) hX dL_law_226 ?_
  refine x_sld (pc := 227) (i := (i + 1)) hX ⟨by omega, by omega⟩ dL_law_227 ?_
  refine x_aload_n (pc := 228) hX 0 dL_law_228 rfl rfl ?_
  refine x_iload_n (pc := 229) hX 3 dL_law_229 rfl rfl ?_
  refine x_iconst (pc := 230) hX dL_law_230 ?_
  refine x_iadd (pc := 231) hX dL_law_231 ?_
  refine x_sld (pc := 232) (i := (i + 2)) hX ⟨by omega, by omega⟩ dL_law_232 ?_
  refine x_callM (pc := 233) hX [.int (zI (xys xs (i + 1))), .int (zI (xys xs (i + 2)))] [.int (zI r)] (wX6_change (ca := ca) hGM e2) zmv_RL_27 rfl rfl ⟨rfl, rfl⟩ ⟨by decide, by decide⟩ (Nat.le_of_ble_eq_true rfl) dL_law_233 ?_
  refine x_eq (pc := 236) (tgt := 1146) hX dL_law_236 (by decide) ?_
  exact k _ _ hrel
def zS_undo (Rel : zM → zM → Prop) (mC mM : zM) : Prop := ∃ (r : Int) (mC1 : zM) (mM1 : zM), FX5_undo  mC = some (r, mC1) ∧ FX6_undo  mM = some (r, mM1) ∧ Rel mC1 mM1
theorem lc_undo {Rel : zM → zM → Prop} {X : xXT} {l : Launch} {b L : Nat} {xs : Nat → Int32} {D : va_G} {ca : Nat → ClassId} {adC adM : Nat → Nat} {mC mM : zM} (hX : xC X l b L xs D ca adC adM) (hGC : zGok (zGC D ca adC)) (hGM : zGok (zGM D ca adM)) {i : Int} (hi : 0 ≤ i ∧ i + 6 ≤ (L : Int)) (h : zS_undo Rel mC mM) (k : ∀ mC1 mM1, Rel mC1 mM1 → xV X mC1 mM1 1146 [(0, .ref b), (1, .ref (adC 0)), (2, .ref (adM 0)), (3, .int (zI i))] []) : xV X mC mM 241 [(0, .ref b), (1, .ref (adC 0)), (2, .ref (adM 0)), (3, .int (zI i))] [] := by
  obtain ⟨r, mC1, mM1, e1, e2, hrel⟩ := h 
  refine x_aload_n (pc := 241) hX 1 dL_law_241 rfl rfl ?_
  refine x_callC (pc := 242) hX [] [] (wX5_undo (ca := ca) hGC e1) zmv_RL_28 rfl rfl ⟨rfl, rfl⟩ ⟨by decide, by decide⟩ (Nat.le_of_ble_eq_true rfl) dL_law_242 ?_
  refine x_aload_n (pc := 245) hX 2 dL_law_245 rfl rfl ?_
  refine x_callM (pc := 246) hX [] [.int (zI r)] (wX6_undo (ca := ca) hGM e2) zmv_RL_31 rfl rfl ⟨rfl, rfl⟩ ⟨by decide, by decide⟩ (Nat.le_of_ble_eq_true rfl) dL_law_246 ?_
  refine x_eq (pc := 249) (tgt := 1146) hX dL_law_249 (by decide) ?_
  exact k _ _ hrel
def zS_letter (Rel : zM → zM → Prop) (mC mM : zM) : Prop := ∀ a1 : Int, zR a1 → ∃ (r : Int), FX5_letter a1 mC = some r ∧ FX6_letter a1 mM = some r ∧ Rel mC mM
theorem lc_letter {Rel : zM → zM → Prop} {X : xXT} {l : Launch} {b L : Nat} {xs : Nat → Int32} {D : va_G} {ca : Nat → ClassId} {adC adM : Nat → Nat} {mC mM : zM} (hX : xC X l b L xs D ca adC adM) (hGC : zGok (zGC D ca adC)) (hGM : zGok (zGM D ca adM)) {i : Int} (hi : 0 ≤ i ∧ i + 6 ≤ (L : Int)) (h : zS_letter Rel mC mM) (k : ∀ mC1 mM1, Rel mC1 mM1 → xV X mC1 mM1 1146 [(0, .ref b), (1, .ref (adC 0)), (2, .ref (adM 0)), (3, .int (zI i))] []) : xV X mC mM 254 [(0, .ref b), (1, .ref (adC 0)), (2, .ref (adM 0)), (3, .int (zI i))] [] := by
  obtain ⟨r, e1, e2, hrel⟩ := h (xys xs (i + 1)) (xys_R _ _)
  refine x_aload_n (pc := 254) hX 1 dL_law_254 rfl rfl ?_
  refine x_aload_n (pc := 255) hX 0 dL_law_255 rfl rfl ?_
  refine x_iload_n (pc := 256) hX 3 dL_law_256 rfl rfl ?_
  refine x_iconst (pc := 257) hX dL_law_257 ?_
  refine x_iadd (pc := 258) hX dL_law_258 ?_
  refine x_sld (pc := 259) (i := (i + 1)) hX ⟨by omega, by omega⟩ dL_law_259 ?_
  refine x_callC (pc := 260) hX [.int (zI (xys xs (i + 1)))] [] (wX5_letter (ca := ca) hGC e1) zmv_RL_32 rfl rfl ⟨rfl, rfl⟩ ⟨by decide, by decide⟩ (Nat.le_of_ble_eq_true rfl) dL_law_260 ?_
  refine x_aload_n (pc := 263) hX 2 dL_law_263 rfl rfl ?_
  refine x_aload_n (pc := 264) hX 0 dL_law_264 rfl rfl ?_
  refine x_iload_n (pc := 265) hX 3 dL_law_265 rfl rfl ?_
  refine x_iconst (pc := 266) hX dL_law_266 ?_
  refine x_iadd (pc := 267) hX dL_law_267 ?_
  refine x_sld (pc := 268) (i := (i + 1)) hX ⟨by omega, by omega⟩ dL_law_268 ?_
  refine x_callM (pc := 269) hX [.int (zI (xys xs (i + 1)))] [.int (zI r)] (wX6_letter (ca := ca) hGM e2) zmv_RL_35 rfl rfl ⟨rfl, rfl⟩ ⟨by decide, by decide⟩ (Nat.le_of_ble_eq_true rfl) dL_law_269 ?_
  refine x_eq (pc := 272) (tgt := 1146) hX dL_law_272 (by decide) ?_
  exact k _ _ hrel
def zS_node (Rel : zM → zM → Prop) (mC mM : zM) : Prop := ∀ a1 : Int, zR a1 → ∀ a2 : Int, zR a2 → ∃ (r : Int) (mM1 : zM), FX5_node a1 a2 mC = some r ∧ FX6_node a1 a2 mM = some (r, mM1) ∧ Rel mC mM1
theorem lc_node {Rel : zM → zM → Prop} {X : xXT} {l : Launch} {b L : Nat} {xs : Nat → Int32} {D : va_G} {ca : Nat → ClassId} {adC adM : Nat → Nat} {mC mM : zM} (hX : xC X l b L xs D ca adC adM) (hGC : zGok (zGC D ca adC)) (hGM : zGok (zGM D ca adM)) {i : Int} (hi : 0 ≤ i ∧ i + 6 ≤ (L : Int)) (h : zS_node Rel mC mM) (k : ∀ mC1 mM1, Rel mC1 mM1 → xV X mC1 mM1 1146 [(0, .ref b), (1, .ref (adC 0)), (2, .ref (adM 0)), (3, .int (zI i))] []) : xV X mC mM 277 [(0, .ref b), (1, .ref (adC 0)), (2, .ref (adM 0)), (3, .int (zI i))] [] := by
  obtain ⟨r, mM1, e1, e2, hrel⟩ := h (xys xs (i + 1)) (xys_R _ _) (xys xs (i + 2)) (xys_R _ _)
  refine x_aload_n (pc := 277) hX 1 dL_law_277 rfl rfl ?_
  refine x_aload_n (pc := 278) hX 0 dL_law_278 rfl rfl ?_
  refine x_iload_n (pc := 279) hX 3 dL_law_279 rfl rfl ?_
  refine x_iconst (pc := 280) hX dL_law_280 ?_
  refine x_iadd (pc := 281) hX dL_law_281 ?_
  refine x_sld (pc := 282) (i := (i + 1)) hX ⟨by omega, by omega⟩ dL_law_282 ?_
  refine x_aload_n (pc := 283) hX 0 dL_law_283 rfl rfl ?_
  refine x_iload_n (pc := 284) hX 3 dL_law_284 rfl rfl ?_
  refine x_iconst (pc := 285) hX dL_law_285 ?_
  refine x_iadd (pc := 286) hX dL_law_286 ?_
  refine x_sld (pc := 287) (i := (i + 2)) hX ⟨by omega, by omega⟩ dL_law_287 ?_
  refine x_callC (pc := 288) hX [.int (zI (xys xs (i + 1))), .int (zI (xys xs (i + 2)))] [] (wX5_node (ca := ca) hGC e1) zmv_RL_36 rfl rfl ⟨rfl, rfl⟩ ⟨by decide, by decide⟩ (Nat.le_of_ble_eq_true rfl) dL_law_288 ?_
  refine x_aload_n (pc := 291) hX 2 dL_law_291 rfl rfl ?_
  refine x_aload_n (pc := 292) hX 0 dL_law_292 rfl rfl ?_
  refine x_iload_n (pc := 293) hX 3 dL_law_293 rfl rfl ?_
  refine x_iconst (pc := 294) hX dL_law_294 ?_
  refine x_iadd (pc := 295) hX dL_law_295 ?_
  refine x_sld (pc := 296) (i := (i + 1)) hX ⟨by omega, by omega⟩ dL_law_296 ?_
  refine x_aload_n (pc := 297) hX 0 dL_law_297 rfl rfl ?_
  refine x_iload_n (pc := 298) hX 3 dL_law_298 rfl rfl ?_
  refine x_iconst (pc := 299) hX dL_law_299 ?_
  refine x_iadd (pc := 300) hX dL_law_300 ?_
  refine x_sld (pc := 301) (i := (i + 2)) hX ⟨by omega, by omega⟩ dL_law_301 ?_
  refine x_callM (pc := 302) hX [.int (zI (xys xs (i + 1))), .int (zI (xys xs (i + 2)))] [.int (zI r)] (wX6_node (ca := ca) hGM e2) zmv_RL_39 rfl rfl ⟨rfl, rfl⟩ ⟨by decide, by decide⟩ (Nat.le_of_ble_eq_true rfl) dL_law_302 ?_
  refine x_eq (pc := 305) (tgt := 1146) hX dL_law_305 (by decide) ?_
  exact k _ _ hrel
def zS_keep (Rel : zM → zM → Prop) (mC mM : zM) : Prop := ∀ a1 : Int, zR a1 → ∃ (r : Int) (mC1 : zM) (mM1 : zM), FX5_keep a1 mC = some (r, mC1) ∧ FX6_keep a1 mM = some (r, mM1) ∧ Rel mC1 mM1
theorem lc_keep {Rel : zM → zM → Prop} {X : xXT} {l : Launch} {b L : Nat} {xs : Nat → Int32} {D : va_G} {ca : Nat → ClassId} {adC adM : Nat → Nat} {mC mM : zM} (hX : xC X l b L xs D ca adC adM) (hGC : zGok (zGC D ca adC)) (hGM : zGok (zGM D ca adM)) {i : Int} (hi : 0 ≤ i ∧ i + 6 ≤ (L : Int)) (h : zS_keep Rel mC mM) (k : ∀ mC1 mM1, Rel mC1 mM1 → xV X mC1 mM1 1146 [(0, .ref b), (1, .ref (adC 0)), (2, .ref (adM 0)), (3, .int (zI i))] []) : xV X mC mM 310 [(0, .ref b), (1, .ref (adC 0)), (2, .ref (adM 0)), (3, .int (zI i))] [] := by
  obtain ⟨r, mC1, mM1, e1, e2, hrel⟩ := h (xys xs (i + 1)) (xys_R _ _)
  refine x_aload_n (pc := 310) hX 1 dL_law_310 rfl rfl ?_
  refine x_aload_n (pc := 311) hX 0 dL_law_311 rfl rfl ?_
  refine x_iload_n (pc := 312) hX 3 dL_law_312 rfl rfl ?_
  refine x_iconst (pc := 313) hX dL_law_313 ?_
  refine x_iadd (pc := 314) hX dL_law_314 ?_
  refine x_sld (pc := 315) (i := (i + 1)) hX ⟨by omega, by omega⟩ dL_law_315 ?_
  refine x_callC (pc := 316) hX [.int (zI (xys xs (i + 1)))] [] (wX5_keep (ca := ca) hGC e1) zmv_RL_40 rfl rfl ⟨rfl, rfl⟩ ⟨by decide, by decide⟩ (Nat.le_of_ble_eq_true rfl) dL_law_316 ?_
  refine x_aload_n (pc := 319) hX 2 dL_law_319 rfl rfl ?_
  refine x_aload_n (pc := 320) hX 0 dL_law_320 rfl rfl ?_
  refine x_iload_n (pc := 321) hX 3 dL_law_321 rfl rfl ?_
  refine x_iconst (pc := 322) hX dL_law_322 ?_
  refine x_iadd (pc := 323) hX dL_law_323 ?_
  refine x_sld (pc := 324) (i := (i + 1)) hX ⟨by omega, by omega⟩ dL_law_324 ?_
  refine x_callM (pc := 325) hX [.int (zI (xys xs (i + 1)))] [.int (zI r)] (wX6_keep (ca := ca) hGM e2) zmv_RL_43 rfl rfl ⟨rfl, rfl⟩ ⟨by decide, by decide⟩ (Nat.le_of_ble_eq_true rfl) dL_law_325 ?_
  refine x_eq (pc := 328) (tgt := 1146) hX dL_law_328 (by decide) ?_
  exact k _ _ hrel
def zS_back (Rel : zM → zM → Prop) (mC mM : zM) : Prop := ∀ a1 : Int, zR a1 → ∃ (r : Int) (mC1 : zM) (mM1 : zM), FX5_back a1 mC = some (r, mC1) ∧ FX6_back a1 mM = some (r, mM1) ∧ Rel mC1 mM1
theorem lc_back {Rel : zM → zM → Prop} {X : xXT} {l : Launch} {b L : Nat} {xs : Nat → Int32} {D : va_G} {ca : Nat → ClassId} {adC adM : Nat → Nat} {mC mM : zM} (hX : xC X l b L xs D ca adC adM) (hGC : zGok (zGC D ca adC)) (hGM : zGok (zGM D ca adM)) {i : Int} (hi : 0 ≤ i ∧ i + 6 ≤ (L : Int)) (h : zS_back Rel mC mM) (k : ∀ mC1 mM1, Rel mC1 mM1 → xV X mC1 mM1 1146 [(0, .ref b), (1, .ref (adC 0)), (2, .ref (adM 0)), (3, .int (zI i))] []) : xV X mC mM 333 [(0, .ref b), (1, .ref (adC 0)), (2, .ref (adM 0)), (3, .int (zI i))] [] := by
  obtain ⟨r, mC1, mM1, e1, e2, hrel⟩ := h (xys xs (i + 1)) (xys_R _ _)
  refine x_aload_n (pc := 333) hX 1 dL_law_333 rfl rfl ?_
  refine x_aload_n (pc := 334) hX 0 dL_law_334 rfl rfl ?_
  refine x_iload_n (pc := 335) hX 3 dL_law_335 rfl rfl ?_
  refine x_iconst (pc := 336) hX dL_law_336 ?_
  refine x_iadd (pc := 337) hX dL_law_337 ?_
  refine x_sld (pc := 338) (i := (i + 1)) hX ⟨by omega, by omega⟩ dL_law_338 ?_
  refine x_callC (pc := 339) hX [.int (zI (xys xs (i + 1)))] [] (wX5_back (ca := ca) hGC e1) zmv_RL_44 rfl rfl ⟨rfl, rfl⟩ ⟨by decide, by decide⟩ (Nat.le_of_ble_eq_true rfl) dL_law_339 ?_
  refine x_aload_n (pc := 342) hX 2 dL_law_342 rfl rfl ?_
  refine x_aload_n (pc := 343) hX 0 dL_law_343 rfl rfl ?_
  refine x_iload_n (pc := 344) hX 3 dL_law_344 rfl rfl ?_
  refine x_iconst (pc := 345) hX dL_law_345 ?_
  refine x_iadd (pc := 346) hX dL_law_346 ?_
  refine x_sld (pc := 347) (i := (i + 1)) hX ⟨by omega, by omega⟩ dL_law_347 ?_
  refine x_callM (pc := 348) hX [.int (zI (xys xs (i + 1)))] [.int (zI r)] (wX6_back (ca := ca) hGM e2) zmv_RL_47 rfl rfl ⟨rfl, rfl⟩ ⟨by decide, by decide⟩ (Nat.le_of_ble_eq_true rfl) dL_law_348 ?_
  refine x_eq (pc := 351) (tgt := 1146) hX dL_law_351 (by decide) ?_
  exact k _ _ hrel
def zS_common (Rel : zM → zM → Prop) (mC mM : zM) : Prop := ∀ a1 : Int, zR a1 → ∀ a2 : Int, zR a2 → ∃ (r : Int) (mC1 : zM) (mM1 : zM), FX5_common a1 a2 mC = some (r, mC1) ∧ FX6_common a1 a2 mM = some (r, mM1) ∧ Rel mC1 mM1
theorem lc_common {Rel : zM → zM → Prop} {X : xXT} {l : Launch} {b L : Nat} {xs : Nat → Int32} {D : va_G} {ca : Nat → ClassId} {adC adM : Nat → Nat} {mC mM : zM} (hX : xC X l b L xs D ca adC adM) (hGC : zGok (zGC D ca adC)) (hGM : zGok (zGM D ca adM)) {i : Int} (hi : 0 ≤ i ∧ i + 6 ≤ (L : Int)) (h : zS_common Rel mC mM) (k : ∀ mC1 mM1, Rel mC1 mM1 → xV X mC1 mM1 1146 [(0, .ref b), (1, .ref (adC 0)), (2, .ref (adM 0)), (3, .int (zI i))] []) : xV X mC mM 356 [(0, .ref b), (1, .ref (adC 0)), (2, .ref (adM 0)), (3, .int (zI i))] [] := by
  obtain ⟨r, mC1, mM1, e1, e2, hrel⟩ := h (xys xs (i + 1)) (xys_R _ _) (xys xs (i + 2)) (xys_R _ _)
  refine x_aload_n (pc := 356) hX 1 dL_law_356 rfl rfl ?_
  refine x_aload_n (pc := 357) hX 0 dL_law_357 rfl rfl ?_
  refine x_iload_n (pc := 358) hX 3 dL_law_358 rfl rfl ?_
  refine x_iconst (pc := 359) hX dL_law_359 ?_
  refine x_iadd (pc := 360) hX dL_law_360 ?_
  refine x_sld (pc := 361) (i := (i + 1)) hX ⟨by omega, by omega⟩ dL_law_361 ?_
  refine x_aload_n (pc := 362) hX 0 dL_law_362 rfl rfl ?_
  refine x_iload_n (pc := 363) hX 3 dL_law_363 rfl rfl ?_
  refine x_iconst (pc := 364) hX dL_law_364 ?_
  refine x_iadd (pc := 365) hX dL_law_365 ?_
  refine x_sld (pc := 366) (i := (i + 2)) hX ⟨by omega, by omega⟩ dL_law_366 ?_
  refine x_callC (pc := 367) hX [.int (zI (xys xs (i + 1))), .int (zI (xys xs (i + 2)))] [] (wX5_common (ca := ca) hGC e1) zmv_RL_48 rfl rfl ⟨rfl, rfl⟩ ⟨by decide, by decide⟩ (Nat.le_of_ble_eq_true rfl) dL_law_367 ?_
  refine x_aload_n (pc := 370) hX 2 dL_law_370 rfl rfl ?_
  refine x_aload_n (pc := 371) hX 0 dL_law_371 rfl rfl ?_
  refine x_iload_n (pc := 372) hX 3 dL_law_372 rfl rfl ?_
  refine x_iconst (pc := 373) hX dL_law_373 ?_
  refine x_iadd (pc := 374) hX dL_law_374 ?_
  refine x_sld (pc := 375) (i := (i + 1)) hX ⟨by omega, by omega⟩ dL_law_375 ?_
  refine x_aload_n (pc := 376) hX 0 dL_law_376 rfl rfl ?_
  refine x_iload_n (pc := 377) hX 3 dL_law_377 rfl rfl ?_
  refine x_iconst (pc := 378) hX dL_law_378 ?_
  refine x_iadd (pc := 379) hX dL_law_379 ?_
  refine x_sld (pc := 380) (i := (i + 2)) hX ⟨by omega, by omega⟩ dL_law_380 ?_
  refine x_callM (pc := 381) hX [.int (zI (xys xs (i + 1))), .int (zI (xys xs (i + 2)))] [.int (zI r)] (wX6_common (ca := ca) hGM e2) zmv_RL_51 rfl rfl ⟨rfl, rfl⟩ ⟨by decide, by decide⟩ (Nat.le_of_ble_eq_true rfl) dL_law_381 ?_
  refine x_eq (pc := 384) (tgt := 1146) hX dL_law_384 (by decide) ?_
  exact k _ _ hrel
def zS_ends (Rel : zM → zM → Prop) (mC mM : zM) : Prop := ∀ a1 : Int, zR a1 → ∀ a2 : Int, zR a2 → ∃ (r : Int), FX5_ends a1 a2 mC = some r ∧ FX6_ends a1 a2 mM = some r ∧ Rel mC mM
theorem lc_ends {Rel : zM → zM → Prop} {X : xXT} {l : Launch} {b L : Nat} {xs : Nat → Int32} {D : va_G} {ca : Nat → ClassId} {adC adM : Nat → Nat} {mC mM : zM} (hX : xC X l b L xs D ca adC adM) (hGC : zGok (zGC D ca adC)) (hGM : zGok (zGM D ca adM)) {i : Int} (hi : 0 ≤ i ∧ i + 6 ≤ (L : Int)) (h : zS_ends Rel mC mM) (k : ∀ mC1 mM1, Rel mC1 mM1 → xV X mC1 mM1 1146 [(0, .ref b), (1, .ref (adC 0)), (2, .ref (adM 0)), (3, .int (zI i))] []) : xV X mC mM 389 [(0, .ref b), (1, .ref (adC 0)), (2, .ref (adM 0)), (3, .int (zI i))] [] := by
  obtain ⟨r, e1, e2, hrel⟩ := h (xys xs (i + 1)) (xys_R _ _) (xys xs (i + 2)) (xys_R _ _)
  refine x_aload_n (pc := 389) hX 1 dL_law_389 rfl rfl ?_
  refine x_aload_n (pc := 390) hX 0 dL_law_390 rfl rfl ?_
  refine x_iload_n (pc := 391) hX 3 dL_law_391 rfl rfl ?_
  refine x_iconst (pc := 392) hX dL_law_392 ?_
  refine x_iadd (pc := 393) hX dL_law_393 ?_
  refine x_sld (pc := 394) (i := (i + 1)) hX ⟨by omega, by omega⟩ dL_law_394 ?_
  refine x_aload_n (pc := 395) hX 0 dL_law_395 rfl rfl ?_
  refine x_iload_n (pc := 396) hX 3 dL_law_396 rfl rfl ?_
  refine x_iconst (pc := 397) hX dL_law_397 ?_
  refine x_iadd (pc := 398) hX dL_law_398 ?_
  refine x_sld (pc := 399) (i := (i + 2)) hX ⟨by omega, by omega⟩ dL_law_399 ?_
  refine x_callC (pc := 400) hX [.int (zI (xys xs (i + 1))), .int (zI (xys xs (i + 2)))] [] (wX5_ends (ca := ca) hGC e1) zmv_RL_52 rfl rfl ⟨rfl, rfl⟩ ⟨by decide, by decide⟩ (Nat.le_of_ble_eq_true rfl) dL_law_400 ?_
  refine x_aload_n (pc := 403) hX 2 dL_law_403 rfl rfl ?_
  refine x_aload_n (pc := 404) hX 0 dL_law_404 rfl rfl ?_
  refine x_iload_n (pc := 405) hX 3 dL_law_405 rfl rfl ?_
  refine x_iconst (pc := 406) hX dL_law_406 ?_
  refine x_iadd (pc := 407) hX dL_law_407 ?_
  refine x_sld (pc := 408) (i := (i + 1)) hX ⟨by omega, by omega⟩ dL_law_408 ?_
  refine x_aload_n (pc := 409) hX 0 dL_law_409 rfl rfl ?_
  refine x_iload_n (pc := 410) hX 3 dL_law_410 rfl rfl ?_
  refine x_iconst (pc := 411) hX dL_law_411 ?_
  refine x_iadd (pc := 412) hX dL_law_412 ?_
  refine x_sld (pc := 413) (i := (i + 2)) hX ⟨by omega, by omega⟩ dL_law_413 ?_
  refine x_callM (pc := 414) hX [.int (zI (xys xs (i + 1))), .int (zI (xys xs (i + 2)))] [.int (zI r)] (wX6_ends (ca := ca) hGM e2) zmv_RL_55 rfl rfl ⟨rfl, rfl⟩ ⟨by decide, by decide⟩ (Nat.le_of_ble_eq_true rfl) dL_law_414 ?_
  refine x_eq (pc := 417) (tgt := 1146) hX dL_law_417 (by decide) ?_
  exact k _ _ hrel
def zS_groups (Rel : zM → zM → Prop) (mC mM : zM) : Prop := ∀ a1 : Int, zR a1 → ∃ (r : Int) (mM1 : zM), FX5_groups a1 mC = some r ∧ FX6_groups a1 mM = some (r, mM1) ∧ Rel mC mM1
theorem lc_groups {Rel : zM → zM → Prop} {X : xXT} {l : Launch} {b L : Nat} {xs : Nat → Int32} {D : va_G} {ca : Nat → ClassId} {adC adM : Nat → Nat} {mC mM : zM} (hX : xC X l b L xs D ca adC adM) (hGC : zGok (zGC D ca adC)) (hGM : zGok (zGM D ca adM)) {i : Int} (hi : 0 ≤ i ∧ i + 6 ≤ (L : Int)) (h : zS_groups Rel mC mM) (k : ∀ mC1 mM1, Rel mC1 mM1 → xV X mC1 mM1 1146 [(0, .ref b), (1, .ref (adC 0)), (2, .ref (adM 0)), (3, .int (zI i))] []) : xV X mC mM 422 [(0, .ref b), (1, .ref (adC 0)), (2, .ref (adM 0)), (3, .int (zI i))] [] := by
  obtain ⟨r, mM1, e1, e2, hrel⟩ := h (xys xs (i + 1)) (xys_R _ _)
  refine x_aload_n (pc := 422) hX 1 dL_law_422 rfl rfl ?_
  refine x_aload_n (pc := 423) hX 0 dL_law_423 rfl rfl ?_
  refine x_iload_n (pc := 424) hX 3 dL_law_424 rfl rfl ?_
  refine x_iconst (pc := 425) hX dL_law_425 ?_
  refine x_iadd (pc := 426) hX dL_law_426 ?_
  refine x_sld (pc := 427) (i := (i + 1)) hX ⟨by omega, by omega⟩ dL_law_427 ?_
  refine x_callC (pc := 428) hX [.int (zI (xys xs (i + 1)))] [] (wX5_groups (ca := ca) hGC e1) zmv_RL_56 rfl rfl ⟨rfl, rfl⟩ ⟨by decide, by decide⟩ (Nat.le_of_ble_eq_true rfl) dL_law_428 ?_
  refine x_aload_n (pc := 431) hX 2 dL_law_431 rfl rfl ?_
  refine x_aload_n (pc := 432) hX 0 dL_law_432 rfl rfl ?_
  refine x_iload_n (pc := 433) hX 3 dL_law_433 rfl rfl ?_
  refine x_iconst (pc := 434) hX dL_law_434 ?_
  refine x_iadd (pc := 435) hX dL_law_435 ?_
  refine x_sld (pc := 436) (i := (i + 1)) hX ⟨by omega, by omega⟩ dL_law_436 ?_
  refine x_callM (pc := 437) hX [.int (zI (xys xs (i + 1)))] [.int (zI r)] (wX6_groups (ca := ca) hGM e2) zmv_RL_59 rfl rfl ⟨rfl, rfl⟩ ⟨by decide, by decide⟩ (Nat.le_of_ble_eq_true rfl) dL_law_437 ?_
  refine x_eq (pc := 440) (tgt := 1146) hX dL_law_440 (by decide) ?_
  exact k _ _ hrel
def zS_cuts (Rel : zM → zM → Prop) (mC mM : zM) : Prop := ∀ a1 : Int, zR a1 → ∀ a2 : Int, zR a2 → ∃ (r : Int) (mC1 : zM) (mM1 : zM), FX5_cuts a1 a2 mC = some (r, mC1) ∧ FX6_cuts a1 a2 mM = some (r, mM1) ∧ Rel mC1 mM1
theorem lc_cuts {Rel : zM → zM → Prop} {X : xXT} {l : Launch} {b L : Nat} {xs : Nat → Int32} {D : va_G} {ca : Nat → ClassId} {adC adM : Nat → Nat} {mC mM : zM} (hX : xC X l b L xs D ca adC adM) (hGC : zGok (zGC D ca adC)) (hGM : zGok (zGM D ca adM)) {i : Int} (hi : 0 ≤ i ∧ i + 6 ≤ (L : Int)) (h : zS_cuts Rel mC mM) (k : ∀ mC1 mM1, Rel mC1 mM1 → xV X mC1 mM1 1146 [(0, .ref b), (1, .ref (adC 0)), (2, .ref (adM 0)), (3, .int (zI i))] []) : xV X mC mM 445 [(0, .ref b), (1, .ref (adC 0)), (2, .ref (adM 0)), (3, .int (zI i))] [] := by
  obtain ⟨r, mC1, mM1, e1, e2, hrel⟩ := h (xys xs (i + 1)) (xys_R _ _) (xys xs (i + 2)) (xys_R _ _)
  refine x_aload_n (pc := 445) hX 1 dL_law_445 rfl rfl ?_
  refine x_aload_n (pc := 446) hX 0 dL_law_446 rfl rfl ?_
  refine x_iload_n (pc := 447) hX 3 dL_law_447 rfl rfl ?_
  refine x_iconst (pc := 448) hX dL_law_448 ?_
  refine x_iadd (pc := 449) hX dL_law_449 ?_
  refine x_sld (pc := 450) (i := (i + 1)) hX ⟨by omega, by omega⟩ dL_law_450 ?_
  refine x_aload_n (pc := 451) hX 0 dL_law_451 rfl rfl ?_
  refine x_iload_n (pc := 452) hX 3 dL_law_452 rfl rfl ?_
  refine x_iconst (pc := 453) hX dL_law_453 ?_
  refine x_iadd (pc := 454) hX dL_law_454 ?_
  refine x_sld (pc := 455) (i := (i + 2)) hX ⟨by omega, by omega⟩ dL_law_455 ?_
  refine x_callC (pc := 456) hX [.int (zI (xys xs (i + 1))), .int (zI (xys xs (i + 2)))] [] (wX5_cuts (ca := ca) hGC e1) zmv_RL_60 rfl rfl ⟨rfl, rfl⟩ ⟨by decide, by decide⟩ (Nat.le_of_ble_eq_true rfl) dL_law_456 ?_
  refine x_aload_n (pc := 459) hX 2 dL_law_459 rfl rfl ?_
  refine x_aload_n (pc := 460) hX 0 dL_law_460 rfl rfl ?_
  refine x_iload_n (pc := 461) hX 3 dL_law_461 rfl rfl ?_
  refine x_iconst (pc := 462) hX dL_law_462 ?_
  refine x_iadd (pc := 463) hX dL_law_463 ?_
  refine x_sld (pc := 464) (i := (i + 1)) hX ⟨by omega, by omega⟩ dL_law_464 ?_
  refine x_aload_n (pc := 465) hX 0 dL_law_465 rfl rfl ?_
  refine x_iload_n (pc := 466) hX 3 dL_law_466 rfl rfl ?_
  refine x_iconst (pc := 467) hX dL_law_467 ?_
  refine x_iadd (pc := 468) hX dL_law_468 ?_
  refine x_sld (pc := 469) (i := (i + 2)) hX ⟨by omega, by omega⟩ dL_law_469 ?_
  refine x_callM (pc := 470) hX [.int (zI (xys xs (i + 1))), .int (zI (xys xs (i + 2)))] [.int (zI r)] (wX6_cuts (ca := ca) hGM e2) zmv_RL_63 rfl rfl ⟨rfl, rfl⟩ ⟨by decide, by decide⟩ (Nat.le_of_ble_eq_true rfl) dL_law_470 ?_
  refine x_eq (pc := 473) (tgt := 1146) hX dL_law_473 (by decide) ?_
  exact k _ _ hrel
def zS_evens (Rel : zM → zM → Prop) (mC mM : zM) : Prop := ∀ a1 : Int, zR a1 → ∃ (r : Int) (mC1 : zM) (mM1 : zM), FX5_evens a1 mC = some (r, mC1) ∧ FX6_evens a1 mM = some (r, mM1) ∧ Rel mC1 mM1
theorem lc_evens {Rel : zM → zM → Prop} {X : xXT} {l : Launch} {b L : Nat} {xs : Nat → Int32} {D : va_G} {ca : Nat → ClassId} {adC adM : Nat → Nat} {mC mM : zM} (hX : xC X l b L xs D ca adC adM) (hGC : zGok (zGC D ca adC)) (hGM : zGok (zGM D ca adM)) {i : Int} (hi : 0 ≤ i ∧ i + 6 ≤ (L : Int)) (h : zS_evens Rel mC mM) (k : ∀ mC1 mM1, Rel mC1 mM1 → xV X mC1 mM1 1146 [(0, .ref b), (1, .ref (adC 0)), (2, .ref (adM 0)), (3, .int (zI i))] []) : xV X mC mM 478 [(0, .ref b), (1, .ref (adC 0)), (2, .ref (adM 0)), (3, .int (zI i))] [] := by
  obtain ⟨r, mC1, mM1, e1, e2, hrel⟩ := h (xys xs (i + 1)) (xys_R _ _)
  refine x_aload_n (pc := 478) hX 1 dL_law_478 rfl rfl ?_
  refine x_aload_n (pc := 479) hX 0 dL_law_479 rfl rfl ?_
  refine x_iload_n (pc := 480) hX 3 dL_law_480 rfl rfl ?_
  refine x_iconst (pc := 481) hX dL_law_481 ?_
  refine x_iadd (pc := 482) hX dL_law_482 ?_
  refine x_sld (pc := 483) (i := (i + 1)) hX ⟨by omega, by omega⟩ dL_law_483 ?_
  refine x_callC (pc := 484) hX [.int (zI (xys xs (i + 1)))] [] (wX5_evens (ca := ca) hGC e1) zmv_RL_64 rfl rfl ⟨rfl, rfl⟩ ⟨by decide, by decide⟩ (Nat.le_of_ble_eq_true rfl) dL_law_484 ?_
  refine x_aload_n (pc := 487) hX 2 dL_law_487 rfl rfl ?_
  refine x_aload_n (pc := 488) hX 0 dL_law_488 rfl rfl ?_
  refine x_iload_n (pc := 489) hX 3 dL_law_489 rfl rfl ?_
  refine x_iconst (pc := 490) hX dL_law_490 ?_
  refine x_iadd (pc := 491) hX dL_law_491 ?_
  refine x_sld (pc := 492) (i := (i + 1)) hX ⟨by omega, by omega⟩ dL_law_492 ?_
  refine x_callM (pc := 493) hX [.int (zI (xys xs (i + 1)))] [.int (zI r)] (wX6_evens (ca := ca) hGM e2) zmv_RL_67 rfl rfl ⟨rfl, rfl⟩ ⟨by decide, by decide⟩ (Nat.le_of_ble_eq_true rfl) dL_law_493 ?_
  refine x_eq (pc := 496) (tgt := 1146) hX dL_law_496 (by decide) ?_
  exact k _ _ hrel
def zS_in (Rel : zM → zM → Prop) (mC mM : zM) : Prop := ∀ a1 : Int, zR a1 → ∀ a2 : Int, zR a2 → ∀ a3 : Int, zR a3 → ∃ (r : Int) (mC1 : zM), FX5_in a1 a2 a3 mC = some (r, mC1) ∧ FX6_in a1 a2 a3 mM = some r ∧ Rel mC1 mM
theorem lc_in {Rel : zM → zM → Prop} {X : xXT} {l : Launch} {b L : Nat} {xs : Nat → Int32} {D : va_G} {ca : Nat → ClassId} {adC adM : Nat → Nat} {mC mM : zM} (hX : xC X l b L xs D ca adC adM) (hGC : zGok (zGC D ca adC)) (hGM : zGok (zGM D ca adM)) {i : Int} (hi : 0 ≤ i ∧ i + 6 ≤ (L : Int)) (h : zS_in Rel mC mM) (k : ∀ mC1 mM1, Rel mC1 mM1 → xV X mC1 mM1 1146 [(0, .ref b), (1, .ref (adC 0)), (2, .ref (adM 0)), (3, .int (zI i))] []) : xV X mC mM 501 [(0, .ref b), (1, .ref (adC 0)), (2, .ref (adM 0)), (3, .int (zI i))] [] := by
  obtain ⟨r, mC1, e1, e2, hrel⟩ := h (xys xs (i + 1)) (xys_R _ _) (xys xs (i + 2)) (xys_R _ _) (xys xs (i + 3)) (xys_R _ _)
  refine x_aload_n (pc := 501) hX 1 dL_law_501 rfl rfl ?_
  refine x_aload_n (pc := 502) hX 0 dL_law_502 rfl rfl ?_
  refine x_iload_n (pc := 503) hX 3 dL_law_503 rfl rfl ?_
  refine x_iconst (pc := 504) hX dL_law_504 ?_
  refine x_iadd (pc := 505) hX dL_law_505 ?_
  refine x_sld (pc := 506) (i := (i + 1)) hX ⟨by omega, by omega⟩ dL_law_506 ?_
  refine x_aload_n (pc := 507) hX 0 dL_law_507 rfl rfl ?_
  refine x_iload_n (pc := 508) hX 3 dL_law_508 rfl rfl ?_
  refine x_iconst (pc := 509) hX dL_law_509 ?_
  refine x_iadd (pc := 510) hX dL_law_510 ?_
  refine x_sld (pc := 511) (i := (i + 2)) hX ⟨by omega, by omega⟩ dL_law_511 ?_
  refine x_aload_n (pc := 512) hX 0 dL_law_512 rfl rfl ?_
  refine x_iload_n (pc := 513) hX 3 dL_law_513 rfl rfl ?_
  refine x_iconst (pc := 514) hX dL_law_514 ?_
  refine x_iadd (pc := 515) hX dL_law_515 ?_
  refine x_sld (pc := 516) (i := (i + 3)) hX ⟨by omega, by omega⟩ dL_law_516 ?_
  refine x_callC (pc := 517) hX [.int (zI (xys xs (i + 1))), .int (zI (xys xs (i + 2))), .int (zI (xys xs (i + 3)))] [] (wX5_in (ca := ca) hGC e1) zmv_RL_68 rfl rfl ⟨rfl, rfl⟩ ⟨by decide, by decide⟩ (Nat.le_of_ble_eq_true rfl) dL_law_517 ?_
  refine x_aload_n (pc := 520) hX 2 dL_law_520 rfl rfl ?_
  refine x_aload_n (pc := 521) hX 0 dL_law_521 rfl rfl ?_
  refine x_iload_n (pc := 522) hX 3 dL_law_522 rfl rfl ?_
  refine x_iconst (pc := 523) hX dL_law_523 ?_
  refine x_iadd (pc := 524) hX dL_law_524 ?_
  refine x_sld (pc := 525) (i := (i + 1)) hX ⟨by omega, by omega⟩ dL_law_525 ?_
  refine x_aload_n (pc := 526) hX 0 dL_law_526 rfl rfl ?_
  refine x_iload_n (pc := 527) hX 3 dL_law_527 rfl rfl ?_
  refine x_iconst (pc := 528) hX dL_law_528 ?_
  refine x_iadd (pc := 529) hX dL_law_529 ?_
  refine x_sld (pc := 530) (i := (i + 2)) hX ⟨by omega, by omega⟩ dL_law_530 ?_
  refine x_aload_n (pc := 531) hX 0 dL_law_531 rfl rfl ?_
  refine x_iload_n (pc := 532) hX 3 dL_law_532 rfl rfl ?_
  refine x_iconst (pc := 533) hX dL_law_533 ?_
  refine x_iadd (pc := 534) hX dL_law_534 ?_
  refine x_sld (pc := 535) (i := (i + 3)) hX ⟨by omega, by omega⟩ dL_law_535 ?_
  refine x_callM (pc := 536) hX [.int (zI (xys xs (i + 1))), .int (zI (xys xs (i + 2))), .int (zI (xys xs (i + 3)))] [.int (zI r)] (wX6_in (ca := ca) hGM e2) zmv_RL_72 rfl rfl ⟨rfl, rfl⟩ ⟨by decide, by decide⟩ (Nat.le_of_ble_eq_true rfl) dL_law_536 ?_
  refine x_eq (pc := 539) (tgt := 1146) hX dL_law_539 (by decide) ?_
  exact k _ _ hrel
def zS_mend (Rel : zM → zM → Prop) (mC mM : zM) : Prop := ∀ a1 : Int, zR a1 → ∃ (r : Int) (mC1 : zM) (mM1 : zM), FX5_mend a1 mC = some (r, mC1) ∧ FX6_mend a1 mM = some (r, mM1) ∧ Rel mC1 mM1
theorem lc_mend {Rel : zM → zM → Prop} {X : xXT} {l : Launch} {b L : Nat} {xs : Nat → Int32} {D : va_G} {ca : Nat → ClassId} {adC adM : Nat → Nat} {mC mM : zM} (hX : xC X l b L xs D ca adC adM) (hGC : zGok (zGC D ca adC)) (hGM : zGok (zGM D ca adM)) {i : Int} (hi : 0 ≤ i ∧ i + 6 ≤ (L : Int)) (h : zS_mend Rel mC mM) (k : ∀ mC1 mM1, Rel mC1 mM1 → xV X mC1 mM1 1146 [(0, .ref b), (1, .ref (adC 0)), (2, .ref (adM 0)), (3, .int (zI i))] []) : xV X mC mM 544 [(0, .ref b), (1, .ref (adC 0)), (2, .ref (adM 0)), (3, .int (zI i))] [] := by
  obtain ⟨r, mC1, mM1, e1, e2, hrel⟩ := h (xys xs (i + 1)) (xys_R _ _)
  refine x_aload_n (pc := 544) hX 1 dL_law_544 rfl rfl ?_
  refine x_aload_n (pc := 545) hX 0 dL_law_545 rfl rfl ?_
  refine x_iload_n (pc := 546) hX 3 dL_law_546 rfl rfl ?_
  refine x_iconst (pc := 547) hX dL_law_547 ?_
  refine x_iadd (pc := 548) hX dL_law_548 ?_
  refine x_sld (pc := 549) (i := (i + 1)) hX ⟨by omega, by omega⟩ dL_law_549 ?_
  refine x_callC (pc := 550) hX [.int (zI (xys xs (i + 1)))] [] (wX5_mend (ca := ca) hGC e1) zmv_RL_73 rfl rfl ⟨rfl, rfl⟩ ⟨by decide, by decide⟩ (Nat.le_of_ble_eq_true rfl) dL_law_550 ?_
  refine x_aload_n (pc := 553) hX 2 dL_law_553 rfl rfl ?_
  refine x_aload_n (pc := 554) hX 0 dL_law_554 rfl rfl ?_
  refine x_iload_n (pc := 555) hX 3 dL_law_555 rfl rfl ?_
  refine x_iconst (pc := 556) hX dL_law_556 ?_
  refine x_iadd (pc := 557) hX dL_law_557 ?_
  refine x_sld (pc := 558) (i := (i + 1)) hX ⟨by omega, by omega⟩ dL_law_558 ?_
  refine x_callM (pc := 559) hX [.int (zI (xys xs (i + 1)))] [.int (zI r)] (wX6_mend (ca := ca) hGM e2) zmv_RL_76 rfl rfl ⟨rfl, rfl⟩ ⟨by decide, by decide⟩ (Nat.le_of_ble_eq_true rfl) dL_law_559 ?_
  refine x_eq (pc := 562) (tgt := 1146) hX dL_law_562 (by decide) ?_
  exact k _ _ hrel
def zS_turned (Rel : zM → zM → Prop) (mC mM : zM) : Prop := ∀ a1 : Int, zR a1 → ∃ (r : Int), FX5_turned a1 mC = some r ∧ FX6_turned a1 mM = some r ∧ Rel mC mM
theorem lc_turned {Rel : zM → zM → Prop} {X : xXT} {l : Launch} {b L : Nat} {xs : Nat → Int32} {D : va_G} {ca : Nat → ClassId} {adC adM : Nat → Nat} {mC mM : zM} (hX : xC X l b L xs D ca adC adM) (hGC : zGok (zGC D ca adC)) (hGM : zGok (zGM D ca adM)) {i : Int} (hi : 0 ≤ i ∧ i + 6 ≤ (L : Int)) (h : zS_turned Rel mC mM) (k : ∀ mC1 mM1, Rel mC1 mM1 → xV X mC1 mM1 1146 [(0, .ref b), (1, .ref (adC 0)), (2, .ref (adM 0)), (3, .int (zI i))] []) : xV X mC mM 567 [(0, .ref b), (1, .ref (adC 0)), (2, .ref (adM 0)), (3, .int (zI i))] [] := by
  obtain ⟨r, e1, e2, hrel⟩ := h (xys xs (i + 1)) (xys_R _ _)
  refine x_aload_n (pc := 567) hX 1 dL_law_567 rfl rfl ?_
  refine x_aload_n (pc := 568) hX 0 dL_law_568 rfl rfl ?_
  refine x_iload_n (pc := 569) hX 3 dL_law_569 rfl rfl ?_
  refine x_iconst (pc := 570) hX dL_law_570 ?_
  refine x_iadd (pc := 571) hX dL_law_571 ?_
  refine x_sld (pc := 572) (i := (i + 1)) hX ⟨by omega, by omega⟩ dL_law_572 ?_
  refine x_callC (pc := 573) hX [.int (zI (xys xs (i + 1)))] [] (wX5_turned (ca := ca) hGC e1) zmv_RL_77 rfl rfl ⟨rfl, rfl⟩ ⟨by decide, by decide⟩ (Nat.le_of_ble_eq_true rfl) dL_law_573 ?_
  refine x_aload_n (pc := 576) hX 2 dL_law_576 rfl rfl ?_
  refine x_aload_n (pc := 577) hX 0 dL_law_577 rfl rfl ?_
  refine x_iload_n (pc := 578) hX 3 dL_law_578 rfl rfl ?_
  refine x_iconst (pc := 579) hX dL_law_579 ?_
  refine x_iadd (pc := 580) hX dL_law_580 ?_
  refine x_sld (pc := 581) (i := (i + 1)) hX ⟨by omega, by omega⟩ dL_law_581 ?_
  refine x_callM (pc := 582) hX [.int (zI (xys xs (i + 1)))] [.int (zI r)] (wX6_turned (ca := ca) hGM e2) zmv_RL_80 rfl rfl ⟨rfl, rfl⟩ ⟨by decide, by decide⟩ (Nat.le_of_ble_eq_true rfl) dL_law_582 ?_
  refine x_eq (pc := 585) (tgt := 1146) hX dL_law_585 (by decide) ?_
  exact k _ _ hrel
def zS_next (Rel : zM → zM → Prop) (mC mM : zM) : Prop := ∀ a1 : Int, zR a1 → ∀ a2 : Int, zR a2 → ∃ (r : Int) (mC1 : zM) (mM1 : zM), FX5_next a1 a2 mC = some (r, mC1) ∧ FX6_next a1 a2 mM = some (r, mM1) ∧ Rel mC1 mM1
theorem lc_next {Rel : zM → zM → Prop} {X : xXT} {l : Launch} {b L : Nat} {xs : Nat → Int32} {D : va_G} {ca : Nat → ClassId} {adC adM : Nat → Nat} {mC mM : zM} (hX : xC X l b L xs D ca adC adM) (hGC : zGok (zGC D ca adC)) (hGM : zGok (zGM D ca adM)) {i : Int} (hi : 0 ≤ i ∧ i + 6 ≤ (L : Int)) (h : zS_next Rel mC mM) (k : ∀ mC1 mM1, Rel mC1 mM1 → xV X mC1 mM1 1146 [(0, .ref b), (1, .ref (adC 0)), (2, .ref (adM 0)), (3, .int (zI i))] []) : xV X mC mM 590 [(0, .ref b), (1, .ref (adC 0)), (2, .ref (adM 0)), (3, .int (zI i))] [] := by
  obtain ⟨r, mC1, mM1, e1, e2, hrel⟩ := h (xys xs (i + 1)) (xys_R _ _) (xys xs (i + 2)) (xys_R _ _)
  refine x_aload_n (pc := 590) hX 1 dL_law_590 rfl rfl ?_
  refine x_aload_n (pc := 591) hX 0 dL_law_591 rfl rfl ?_
  refine x_iload_n (pc := 592) hX 3 dL_law_592 rfl rfl ?_
  refine x_iconst (pc := 593) hX dL_law_593 ?_
  refine x_iadd (pc := 594) hX dL_law_594 ?_
  refine x_sld (pc := 595) (i := (i + 1)) hX ⟨by omega, by omega⟩ dL_law_595 ?_
  refine x_aload_n (pc := 596) hX 0 dL_law_596 rfl rfl ?_
  refine x_iload_n (pc := 597) hX 3 dL_law_597 rfl rfl ?_
  refine x_iconst (pc := 598) hX dL_law_598 ?_
  refine x_iadd (pc := 599) hX dL_law_599 ?_
  refine x_sld (pc := 600) (i := (i + 2)) hX ⟨by omega, by omega⟩ dL_law_600 ?_
  refine x_callC (pc := 601) hX [.int (zI (xys xs (i + 1))), .int (zI (xys xs (i + 2)))] [] (wX5_next (ca := ca) hGC e1) zmv_RL_81 rfl rfl ⟨rfl, rfl⟩ ⟨by decide, by decide⟩ (Nat.le_of_ble_eq_true rfl) dL_law_601 ?_
  refine x_aload_n (pc := 604) hX 2 dL_law_604 rfl rfl ?_
  refine x_aload_n (pc := 605) hX 0 dL_law_605 rfl rfl ?_
  refine x_iload_n (pc := 606) hX 3 dL_law_606 rfl rfl ?_
  refine x_iconst (pc := 607) hX dL_law_607 ?_
  refine x_iadd (pc := 608) hX dL_law_608 ?_
  refine x_sld (pc := 609) (i := (i + 1)) hX ⟨by omega, by omega⟩ dL_law_609 ?_
  refine x_aload_n (pc := 610) hX 0 dL_law_610 rfl rfl ?_
  refine x_iload_n (pc := 611) hX 3 dL_law_611 rfl rfl ?_
  refine x_iconst (pc := 612) hX dL_law_612 ?_
  refine x_iadd (pc := 613) hX dL_law_613 ?_
  refine x_sld (pc := 614) (i := (i + 2)) hX ⟨by omega, by omega⟩ dL_law_614 ?_
  refine x_callM (pc := 615) hX [.int (zI (xys xs (i + 1))), .int (zI (xys xs (i + 2)))] [.int (zI r)] (wX6_next (ca := ca) hGM e2) zmv_RL_84 rfl rfl ⟨rfl, rfl⟩ ⟨by decide, by decide⟩ (Nat.le_of_ble_eq_true rfl) dL_law_615 ?_
  refine x_eq (pc := 618) (tgt := 1146) hX dL_law_618 (by decide) ?_
  exact k _ _ hrel
def zS_grow (Rel : zM → zM → Prop) (mC mM : zM) : Prop := ∀ a1 : Int, zR a1 → ∀ a2 : Int, zR a2 → ∃ (r : Int) (mC1 : zM) (mM1 : zM), FX5_grow a1 a2 mC = some (r, mC1) ∧ FX6_grow a1 a2 mM = some (r, mM1) ∧ Rel mC1 mM1
theorem lc_grow {Rel : zM → zM → Prop} {X : xXT} {l : Launch} {b L : Nat} {xs : Nat → Int32} {D : va_G} {ca : Nat → ClassId} {adC adM : Nat → Nat} {mC mM : zM} (hX : xC X l b L xs D ca adC adM) (hGC : zGok (zGC D ca adC)) (hGM : zGok (zGM D ca adM)) {i : Int} (hi : 0 ≤ i ∧ i + 6 ≤ (L : Int)) (h : zS_grow Rel mC mM) (k : ∀ mC1 mM1, Rel mC1 mM1 → xV X mC1 mM1 1146 [(0, .ref b), (1, .ref (adC 0)), (2, .ref (adM 0)), (3, .int (zI i))] []) : xV X mC mM 623 [(0, .ref b), (1, .ref (adC 0)), (2, .ref (adM 0)), (3, .int (zI i))] [] := by
  obtain ⟨r, mC1, mM1, e1, e2, hrel⟩ := h (xys xs (i + 1)) (xys_R _ _) (xys xs (i + 2)) (xys_R _ _)
  refine x_aload_n (pc := 623) hX 1 dL_law_623 rfl rfl ?_
  refine x_aload_n (pc := 624) hX 0 dL_law_624 rfl rfl ?_
  refine x_iload_n (pc := 625) hX 3 dL_law_625 rfl rfl ?_
  refine x_iconst (pc := 626) hX dL_law_626 ?_
  refine x_iadd (pc := 627) hX dL_law_627 ?_
  refine x_sld (pc := 628) (i := (i + 1)) hX ⟨by omega, by omega⟩ dL_law_628 ?_
  refine x_aload_n (pc := 629) hX 0 dL_law_629 rfl rfl ?_
  refine x_iload_n (pc := 630) hX 3 dL_law_630 rfl rfl ?_
  refine x_iconst (pc := 631) hX dL_law_631 ?_
  refine x_iadd (pc := 632) hX dL_law_632 ?_
  refine x_sld (pc := 633) (i := (i + 2)) hX ⟨by omega, by omega⟩ dL_law_633 ?_
  refine x_callC (pc := 634) hX [.int (zI (xys xs (i + 1))), .int (zI (xys xs (i + 2)))] [] (wX5_grow (ca := ca) hGC e1) zmv_RL_85 rfl rfl ⟨rfl, rfl⟩ ⟨by decide, by decide⟩ (Nat.le_of_ble_eq_true rfl) dL_law_634 ?_
  refine x_aload_n (pc := 637) hX 2 dL_law_637 rfl rfl ?_
  refine x_aload_n (pc := 638) hX 0 dL_law_638 rfl rfl ?_
  refine x_iload_n (pc := 639) hX 3 dL_law_639 rfl rfl ?_
  refine x_iconst (pc := 640) hX dL_law_640 ?_
  refine x_iadd (pc := 641) hX dL_law_641 ?_
  refine x_sld (pc := 642) (i := (i + 1)) hX ⟨by omega, by omega⟩ dL_law_642 ?_
  refine x_aload_n (pc := 643) hX 0 dL_law_643 rfl rfl ?_
  refine x_iload_n (pc := 644) hX 3 dL_law_644 rfl rfl ?_
  refine x_iconst (pc := 645) hX dL_law_645 ?_
  refine x_iadd (pc := 646) hX dL_law_646 ?_
  refine x_sld (pc := 647) (i := (i + 2)) hX ⟨by omega, by omega⟩ dL_law_647 ?_
  refine x_callM (pc := 648) hX [.int (zI (xys xs (i + 1))), .int (zI (xys xs (i + 2)))] [.int (zI r)] (wX6_grow (ca := ca) hGM e2) zmv_RL_88 rfl rfl ⟨rfl, rfl⟩ ⟨by decide, by decide⟩ (Nat.le_of_ble_eq_true rfl) dL_law_648 ?_
  refine x_eq (pc := 651) (tgt := 1146) hX dL_law_651 (by decide) ?_
  exact k _ _ hrel
def zS_odds (Rel : zM → zM → Prop) (mC mM : zM) : Prop := ∀ a1 : Int, zR a1 → ∀ a2 : Int, zR a2 → ∀ a3 : Int, zR a3 → ∃ (r : Int) (mC1 : zM) (mM1 : zM), FX5_odds a1 a2 a3 mC = some (r, mC1) ∧ FX6_odds a1 a2 a3 mM = some (r, mM1) ∧ Rel mC1 mM1
theorem lc_odds {Rel : zM → zM → Prop} {X : xXT} {l : Launch} {b L : Nat} {xs : Nat → Int32} {D : va_G} {ca : Nat → ClassId} {adC adM : Nat → Nat} {mC mM : zM} (hX : xC X l b L xs D ca adC adM) (hGC : zGok (zGC D ca adC)) (hGM : zGok (zGM D ca adM)) {i : Int} (hi : 0 ≤ i ∧ i + 6 ≤ (L : Int)) (h : zS_odds Rel mC mM) (k : ∀ mC1 mM1, Rel mC1 mM1 → xV X mC1 mM1 1146 [(0, .ref b), (1, .ref (adC 0)), (2, .ref (adM 0)), (3, .int (zI i))] []) : xV X mC mM 656 [(0, .ref b), (1, .ref (adC 0)), (2, .ref (adM 0)), (3, .int (zI i))] [] := by
  obtain ⟨r, mC1, mM1, e1, e2, hrel⟩ := h (xys xs (i + 1)) (xys_R _ _) (xys xs (i + 2)) (xys_R _ _) (xys xs (i + 3)) (xys_R _ _)
  refine x_aload_n (pc := 656) hX 1 dL_law_656 rfl rfl ?_
  refine x_aload_n (pc := 657) hX 0 dL_law_657 rfl rfl ?_
  refine x_iload_n (pc := 658) hX 3 dL_law_658 rfl rfl ?_
  refine x_iconst (pc := 659) hX dL_law_659 ?_
  refine x_iadd (pc := 660) hX dL_law_660 ?_
  refine x_sld (pc := 661) (i := (i + 1)) hX ⟨by omega, by omega⟩ dL_law_661 ?_
  refine x_aload_n (pc := 662) hX 0 dL_law_662 rfl rfl ?_
  refine x_iload_n (pc := 663) hX 3 dL_law_663 rfl rfl ?_
  refine x_iconst (pc := 664) hX dL_law_664 ?_
  refine x_iadd (pc := 665) hX dL_law_665 ?_
  refine x_sld (pc := 666) (i := (i + 2)) hX ⟨by omega, by omega⟩ dL_law_666 ?_
  refine x_aload_n (pc := 667) hX 0 dL_law_667 rfl rfl ?_
  refine x_iload_n (pc := 668) hX 3 dL_law_668 rfl rfl ?_
  refine x_iconst (pc := 669) hX dL_law_669 ?_
  refine x_iadd (pc := 670) hX dL_law_670 ?_
  refine x_sld (pc := 671) (i := (i + 3)) hX ⟨by omega, by omega⟩ dL_law_671 ?_
  refine x_callC (pc := 672) hX [.int (zI (xys xs (i + 1))), .int (zI (xys xs (i + 2))), .int (zI (xys xs (i + 3)))] [] (wX5_odds (ca := ca) hGC e1) zmv_RL_89 rfl rfl ⟨rfl, rfl⟩ ⟨by decide, by decide⟩ (Nat.le_of_ble_eq_true rfl) dL_law_672 ?_
  refine x_aload_n (pc := 675) hX 2 dL_law_675 rfl rfl ?_
  refine x_aload_n (pc := 676) hX 0 dL_law_676 rfl rfl ?_
  refine x_iload_n (pc := 677) hX 3 dL_law_677 rfl rfl ?_
  refine x_iconst (pc := 678) hX dL_law_678 ?_
  refine x_iadd (pc := 679) hX dL_law_679 ?_
  refine x_sld (pc := 680) (i := (i + 1)) hX ⟨by omega, by omega⟩ dL_law_680 ?_
  refine x_aload_n (pc := 681) hX 0 dL_law_681 rfl rfl ?_
  refine x_iload_n (pc := 682) hX 3 dL_law_682 rfl rfl ?_
  refine x_iconst (pc := 683) hX dL_law_683 ?_
  refine x_iadd (pc := 684) hX dL_law_684 ?_
  refine x_sld (pc := 685) (i := (i + 2)) hX ⟨by omega, by omega⟩ dL_law_685 ?_
  refine x_aload_n (pc := 686) hX 0 dL_law_686 rfl rfl ?_
  refine x_iload_n (pc := 687) hX 3 dL_law_687 rfl rfl ?_
  refine x_iconst (pc := 688) hX dL_law_688 ?_
  refine x_iadd (pc := 689) hX dL_law_689 ?_
  refine x_sld (pc := 690) (i := (i + 3)) hX ⟨by omega, by omega⟩ dL_law_690 ?_
  refine x_callM (pc := 691) hX [.int (zI (xys xs (i + 1))), .int (zI (xys xs (i + 2))), .int (zI (xys xs (i + 3)))] [.int (zI r)] (wX6_odds (ca := ca) hGM e2) zmv_RL_92 rfl rfl ⟨rfl, rfl⟩ ⟨by decide, by decide⟩ (Nat.le_of_ble_eq_true rfl) dL_law_691 ?_
  refine x_eq (pc := 694) (tgt := 1146) hX dL_law_694 (by decide) ?_
  exact k _ _ hrel
def zS_walks (Rel : zM → zM → Prop) (mC mM : zM) : Prop := ∀ a1 : Int, zR a1 → ∀ a2 : Int, zR a2 → ∀ a3 : Int, zR a3 → ∃ (r : Int) (mC1 : zM) (mM1 : zM), FX5_walks a1 a2 a3 mC = some (r, mC1) ∧ FX6_walks a1 a2 a3 mM = some (r, mM1) ∧ Rel mC1 mM1
theorem lc_walks {Rel : zM → zM → Prop} {X : xXT} {l : Launch} {b L : Nat} {xs : Nat → Int32} {D : va_G} {ca : Nat → ClassId} {adC adM : Nat → Nat} {mC mM : zM} (hX : xC X l b L xs D ca adC adM) (hGC : zGok (zGC D ca adC)) (hGM : zGok (zGM D ca adM)) {i : Int} (hi : 0 ≤ i ∧ i + 6 ≤ (L : Int)) (h : zS_walks Rel mC mM) (k : ∀ mC1 mM1, Rel mC1 mM1 → xV X mC1 mM1 1146 [(0, .ref b), (1, .ref (adC 0)), (2, .ref (adM 0)), (3, .int (zI i))] []) : xV X mC mM 699 [(0, .ref b), (1, .ref (adC 0)), (2, .ref (adM 0)), (3, .int (zI i))] [] := by
  obtain ⟨r, mC1, mM1, e1, e2, hrel⟩ := h (xys xs (i + 1)) (xys_R _ _) (xys xs (i + 2)) (xys_R _ _) (xys xs (i + 3)) (xys_R _ _)
  refine x_aload_n (pc := 699) hX 1 dL_law_699 rfl rfl ?_
  refine x_aload_n (pc := 700) hX 0 dL_law_700 rfl rfl ?_
  refine x_iload_n (pc := 701) hX 3 dL_law_701 rfl rfl ?_
  refine x_iconst (pc := 702) hX dL_law_702 ?_
  refine x_iadd (pc := 703) hX dL_law_703 ?_
  refine x_sld (pc := 704) (i := (i + 1)) hX ⟨by omega, by omega⟩ dL_law_704 ?_
  refine x_aload_n (pc := 705) hX 0 dL_law_705 rfl rfl ?_
  refine x_iload_n (pc := 706) hX 3 dL_law_706 rfl rfl ?_
  refine x_iconst (pc := 707) hX dL_law_707 ?_
  refine x_iadd (pc := 708) hX dL_law_708 ?_
  refine x_sld (pc := 709) (i := (i + 2)) hX ⟨by omega, by omega⟩ dL_law_709 ?_
  refine x_aload_n (pc := 710) hX 0 dL_law_710 rfl rfl ?_
  refine x_iload_n (pc := 711) hX 3 dL_law_711 rfl rfl ?_
  refine x_iconst (pc := 712) hX dL_law_712 ?_
  refine x_iadd (pc := 713) hX dL_law_713 ?_
  refine x_sld (pc := 714) (i := (i + 3)) hX ⟨by omega, by omega⟩ dL_law_714 ?_
  refine x_callC (pc := 715) hX [.int (zI (xys xs (i + 1))), .int (zI (xys xs (i + 2))), .int (zI (xys xs (i + 3)))] [] (wX5_walks (ca := ca) hGC e1) zmv_RL_93 rfl rfl ⟨rfl, rfl⟩ ⟨by decide, by decide⟩ (Nat.le_of_ble_eq_true rfl) dL_law_715 ?_
  refine x_aload_n (pc := 718) hX 2 dL_law_718 rfl rfl ?_
  refine x_aload_n (pc := 719) hX 0 dL_law_719 rfl rfl ?_
  refine x_iload_n (pc := 720) hX 3 dL_law_720 rfl rfl ?_
  refine x_iconst (pc := 721) hX dL_law_721 ?_
  refine x_iadd (pc := 722) hX dL_law_722 ?_
  refine x_sld (pc := 723) (i := (i + 1)) hX ⟨by omega, by omega⟩ dL_law_723 ?_
  refine x_aload_n (pc := 724) hX 0 dL_law_724 rfl rfl ?_
  refine x_iload_n (pc := 725) hX 3 dL_law_725 rfl rfl ?_
  refine x_iconst (pc := 726) hX dL_law_726 ?_
  refine x_iadd (pc := 727) hX dL_law_727 ?_
  refine x_sld (pc := 728) (i := (i + 2)) hX ⟨by omega, by omega⟩ dL_law_728 ?_
  refine x_aload_n (pc := 729) hX 0 dL_law_729 rfl rfl ?_
  refine x_iload_n (pc := 730) hX 3 dL_law_730 rfl rfl ?_
  refine x_iconst (pc := 731) hX dL_law_731 ?_
  refine x_iadd (pc := 732) hX dL_law_732 ?_
  refine x_sld (pc := 733) (i := (i + 3)) hX ⟨by omega, by omega⟩ dL_law_733 ?_
  refine x_callM (pc := 734) hX [.int (zI (xys xs (i + 1))), .int (zI (xys xs (i + 2))), .int (zI (xys xs (i + 3)))] [.int (zI r)] (wX6_walks (ca := ca) hGM e2) zmv_RL_96 rfl rfl ⟨rfl, rfl⟩ ⟨by decide, by decide⟩ (Nat.le_of_ble_eq_true rfl) dL_law_734 ?_
  refine x_eq (pc := 737) (tgt := 1146) hX dL_law_737 (by decide) ?_
  exact k _ _ hrel
def zS_feed (Rel : zM → zM → Prop) (mC mM : zM) : Prop := ∀ a1 : Int, zR a1 → ∃ (r : Int) (mC1 : zM) (mM1 : zM), FX5_feed a1 mC = some (r, mC1) ∧ FX6_feed a1 mM = some (r, mM1) ∧ Rel mC1 mM1
theorem lc_feed {Rel : zM → zM → Prop} {X : xXT} {l : Launch} {b L : Nat} {xs : Nat → Int32} {D : va_G} {ca : Nat → ClassId} {adC adM : Nat → Nat} {mC mM : zM} (hX : xC X l b L xs D ca adC adM) (hGC : zGok (zGC D ca adC)) (hGM : zGok (zGM D ca adM)) {i : Int} (hi : 0 ≤ i ∧ i + 6 ≤ (L : Int)) (h : zS_feed Rel mC mM) (k : ∀ mC1 mM1, Rel mC1 mM1 → xV X mC1 mM1 1146 [(0, .ref b), (1, .ref (adC 0)), (2, .ref (adM 0)), (3, .int (zI i))] []) : xV X mC mM 742 [(0, .ref b), (1, .ref (adC 0)), (2, .ref (adM 0)), (3, .int (zI i))] [] := by
  obtain ⟨r, mC1, mM1, e1, e2, hrel⟩ := h (xys xs (i + 1)) (xys_R _ _)
  refine x_aload_n (pc := 742) hX 1 dL_law_742 rfl rfl ?_
  refine x_aload_n (pc := 743) hX 0 dL_law_743 rfl rfl ?_
  refine x_iload_n (pc := 744) hX 3 dL_law_744 rfl rfl ?_
  refine x_iconst (pc := 745) hX dL_law_745 ?_
  refine x_iadd (pc := 746) hX dL_law_746 ?_
  refine x_sld (pc := 747) (i := (i + 1)) hX ⟨by omega, by omega⟩ dL_law_747 ?_
  refine x_callC (pc := 748) hX [.int (zI (xys xs (i + 1)))] [] (wX5_feed (ca := ca) hGC e1) zmv_RL_97 rfl rfl ⟨rfl, rfl⟩ ⟨by decide, by decide⟩ (Nat.le_of_ble_eq_true rfl) dL_law_748 ?_
  refine x_aload_n (pc := 751) hX 2 dL_law_751 rfl rfl ?_
  refine x_aload_n (pc := 752) hX 0 dL_law_752 rfl rfl ?_
  refine x_iload_n (pc := 753) hX 3 dL_law_753 rfl rfl ?_
  refine x_iconst (pc := 754) hX dL_law_754 ?_
  refine x_iadd (pc := 755) hX dL_law_755 ?_
  refine x_sld (pc := 756) (i := (i + 1)) hX ⟨by omega, by omega⟩ dL_law_756 ?_
  refine x_callM (pc := 757) hX [.int (zI (xys xs (i + 1)))] [.int (zI r)] (wX6_feed (ca := ca) hGM e2) zmv_RL_100 rfl rfl ⟨rfl, rfl⟩ ⟨by decide, by decide⟩ (Nat.le_of_ble_eq_true rfl) dL_law_757 ?_
  refine x_eq (pc := 760) (tgt := 1146) hX dL_law_760 (by decide) ?_
  exact k _ _ hrel
def zS_clear (Rel : zM → zM → Prop) (mC mM : zM) : Prop := ∃ (r : Int) (mC1 : zM) (mM1 : zM), FX5_clear  mC = some (r, mC1) ∧ FX6_clear  mM = some (r, mM1) ∧ Rel mC1 mM1
theorem lc_clear {Rel : zM → zM → Prop} {X : xXT} {l : Launch} {b L : Nat} {xs : Nat → Int32} {D : va_G} {ca : Nat → ClassId} {adC adM : Nat → Nat} {mC mM : zM} (hX : xC X l b L xs D ca adC adM) (hGC : zGok (zGC D ca adC)) (hGM : zGok (zGM D ca adM)) {i : Int} (hi : 0 ≤ i ∧ i + 6 ≤ (L : Int)) (h : zS_clear Rel mC mM) (k : ∀ mC1 mM1, Rel mC1 mM1 → xV X mC1 mM1 1146 [(0, .ref b), (1, .ref (adC 0)), (2, .ref (adM 0)), (3, .int (zI i))] []) : xV X mC mM 765 [(0, .ref b), (1, .ref (adC 0)), (2, .ref (adM 0)), (3, .int (zI i))] [] := by
  obtain ⟨r, mC1, mM1, e1, e2, hrel⟩ := h 
  refine x_aload_n (pc := 765) hX 1 dL_law_765 rfl rfl ?_
  refine x_callC (pc := 766) hX [] [] (wX5_clear (ca := ca) hGC e1) zmv_RL_101 rfl rfl ⟨rfl, rfl⟩ ⟨by decide, by decide⟩ (Nat.le_of_ble_eq_true rfl) dL_law_766 ?_
  refine x_aload_n (pc := 769) hX 2 dL_law_769 rfl rfl ?_
  refine x_callM (pc := 770) hX [] [.int (zI r)] (wX6_clear (ca := ca) hGM e2) zmv_RL_104 rfl rfl ⟨rfl, rfl⟩ ⟨by decide, by decide⟩ (Nat.le_of_ble_eq_true rfl) dL_law_770 ?_
  refine x_eq (pc := 773) (tgt := 1146) hX dL_law_773 (by decide) ?_
  exact k _ _ hrel
def zS_find (Rel : zM → zM → Prop) (mC mM : zM) : Prop := ∃ (r : Int) (mM1 : zM), FX5_find  mC = some r ∧ FX6_find  mM = some (r, mM1) ∧ Rel mC mM1
theorem lc_find {Rel : zM → zM → Prop} {X : xXT} {l : Launch} {b L : Nat} {xs : Nat → Int32} {D : va_G} {ca : Nat → ClassId} {adC adM : Nat → Nat} {mC mM : zM} (hX : xC X l b L xs D ca adC adM) (hGC : zGok (zGC D ca adC)) (hGM : zGok (zGM D ca adM)) {i : Int} (hi : 0 ≤ i ∧ i + 6 ≤ (L : Int)) (h : zS_find Rel mC mM) (k : ∀ mC1 mM1, Rel mC1 mM1 → xV X mC1 mM1 1146 [(0, .ref b), (1, .ref (adC 0)), (2, .ref (adM 0)), (3, .int (zI i))] []) : xV X mC mM 778 [(0, .ref b), (1, .ref (adC 0)), (2, .ref (adM 0)), (3, .int (zI i))] [] := by
  obtain ⟨r, mM1, e1, e2, hrel⟩ := h 
  refine x_aload_n (pc := 778) hX 1 dL_law_778 rfl rfl ?_
  refine x_callC (pc := 779) hX [] [] (wX5_find (ca := ca) hGC e1) zmv_RL_105 rfl rfl ⟨rfl, rfl⟩ ⟨by decide, by decide⟩ (Nat.le_of_ble_eq_true rfl) dL_law_779 ?_
  refine x_aload_n (pc := 782) hX 2 dL_law_782 rfl rfl ?_
  refine x_callM (pc := 783) hX [] [.int (zI r)] (wX6_find (ca := ca) hGM e2) zmv_RL_108 rfl rfl ⟨rfl, rfl⟩ ⟨by decide, by decide⟩ (Nat.le_of_ble_eq_true rfl) dL_law_783 ?_
  refine x_eq (pc := 786) (tgt := 1146) hX dL_law_786 (by decide) ?_
  exact k _ _ hrel
def zS_times (Rel : zM → zM → Prop) (mC mM : zM) : Prop := ∃ (r : Int), FX5_times  mC = some r ∧ FX6_times  mM = some r ∧ Rel mC mM
theorem lc_times {Rel : zM → zM → Prop} {X : xXT} {l : Launch} {b L : Nat} {xs : Nat → Int32} {D : va_G} {ca : Nat → ClassId} {adC adM : Nat → Nat} {mC mM : zM} (hX : xC X l b L xs D ca adC adM) (hGC : zGok (zGC D ca adC)) (hGM : zGok (zGM D ca adM)) {i : Int} (hi : 0 ≤ i ∧ i + 6 ≤ (L : Int)) (h : zS_times Rel mC mM) (k : ∀ mC1 mM1, Rel mC1 mM1 → xV X mC1 mM1 1146 [(0, .ref b), (1, .ref (adC 0)), (2, .ref (adM 0)), (3, .int (zI i))] []) : xV X mC mM 791 [(0, .ref b), (1, .ref (adC 0)), (2, .ref (adM 0)), (3, .int (zI i))] [] := by
  obtain ⟨r, e1, e2, hrel⟩ := h 
  refine x_aload_n (pc := 791) hX 1 dL_law_791 rfl rfl ?_
  refine x_callC (pc := 792) hX [] [] (wX5_times (ca := ca) hGC e1) zmv_RL_109 rfl rfl ⟨rfl, rfl⟩ ⟨by decide, by decide⟩ (Nat.le_of_ble_eq_true rfl) dL_law_792 ?_
  refine x_aload_n (pc := 795) hX 2 dL_law_795 rfl rfl ?_
  refine x_callM (pc := 796) hX [] [.int (zI r)] (wX6_times (ca := ca) hGM e2) zmv_RL_112 rfl rfl ⟨rfl, rfl⟩ ⟨by decide, by decide⟩ (Nat.le_of_ble_eq_true rfl) dL_law_796 ?_
  refine x_eq (pc := 799) (tgt := 1146) hX dL_law_799 (by decide) ?_
  exact k _ _ hrel
def zS_sheet (Rel : zM → zM → Prop) (mC mM : zM) : Prop := ∀ a1 : Int, zR a1 → ∀ a2 : Int, zR a2 → ∀ a3 : Int, zR a3 → ∃ (r : Int) (mC1 : zM) (mM1 : zM), FX5_sheet a1 a2 a3 mC = some (r, mC1) ∧ FX6_sheet a1 a2 a3 mM = some (r, mM1) ∧ Rel mC1 mM1
theorem lc_sheet {Rel : zM → zM → Prop} {X : xXT} {l : Launch} {b L : Nat} {xs : Nat → Int32} {D : va_G} {ca : Nat → ClassId} {adC adM : Nat → Nat} {mC mM : zM} (hX : xC X l b L xs D ca adC adM) (hGC : zGok (zGC D ca adC)) (hGM : zGok (zGM D ca adM)) {i : Int} (hi : 0 ≤ i ∧ i + 6 ≤ (L : Int)) (h : zS_sheet Rel mC mM) (k : ∀ mC1 mM1, Rel mC1 mM1 → xV X mC1 mM1 1146 [(0, .ref b), (1, .ref (adC 0)), (2, .ref (adM 0)), (3, .int (zI i))] []) : xV X mC mM 804 [(0, .ref b), (1, .ref (adC 0)), (2, .ref (adM 0)), (3, .int (zI i))] [] := by
  obtain ⟨r, mC1, mM1, e1, e2, hrel⟩ := h (xys xs (i + 1)) (xys_R _ _) (xys xs (i + 2)) (xys_R _ _) (xys xs (i + 3)) (xys_R _ _)
  refine x_aload_n (pc := 804) hX 1 dL_law_804 rfl rfl ?_
  refine x_aload_n (pc := 805) hX 0 dL_law_805 rfl rfl ?_
  refine x_iload_n (pc := 806) hX 3 dL_law_806 rfl rfl ?_
  refine x_iconst (pc := 807) hX dL_law_807 ?_
  refine x_iadd (pc := 808) hX dL_law_808 ?_
  refine x_sld (pc := 809) (i := (i + 1)) hX ⟨by omega, by omega⟩ dL_law_809 ?_
  refine x_aload_n (pc := 810) hX 0 dL_law_810 rfl rfl ?_
  refine x_iload_n (pc := 811) hX 3 dL_law_811 rfl rfl ?_
  refine x_iconst (pc := 812) hX dL_law_812 ?_
  refine x_iadd (pc := 813) hX dL_law_813 ?_
  refine x_sld (pc := 814) (i := (i + 2)) hX ⟨by omega, by omega⟩ dL_law_814 ?_
  refine x_aload_n (pc := 815) hX 0 dL_law_815 rfl rfl ?_
  refine x_iload_n (pc := 816) hX 3 dL_law_816 rfl rfl ?_
  refine x_iconst (pc := 817) hX dL_law_817 ?_
  refine x_iadd (pc := 818) hX dL_law_818 ?_
  refine x_sld (pc := 819) (i := (i + 3)) hX ⟨by omega, by omega⟩ dL_law_819 ?_
  refine x_callC (pc := 820) hX [.int (zI (xys xs (i + 1))), .int (zI (xys xs (i + 2))), .int (zI (xys xs (i + 3)))] [] (wX5_sheet (ca := ca) hGC e1) zmv_RL_113 rfl rfl ⟨rfl, rfl⟩ ⟨by decide, by decide⟩ (Nat.le_of_ble_eq_true rfl) dL_law_820 ?_
  refine x_aload_n (pc := 823) hX 2 dL_law_823 rfl rfl ?_
  refine x_aload_n (pc := 824) hX 0 dL_law_824 rfl rfl ?_
  refine x_iload_n (pc := 825) hX 3 dL_law_825 rfl rfl ?_
  refine x_iconst (pc := 826) hX dL_law_826 ?_
  refine x_iadd (pc := 827) hX dL_law_827 ?_
  refine x_sld (pc := 828) (i := (i + 1)) hX ⟨by omega, by omega⟩ dL_law_828 ?_
  refine x_aload_n (pc := 829) hX 0 dL_law_829 rfl rfl ?_
  refine x_iload_n (pc := 830) hX 3 dL_law_830 rfl rfl ?_
  refine x_iconst (pc := 831) hX dL_law_831 ?_
  refine x_iadd (pc := 832) hX dL_law_832 ?_
  refine x_sld (pc := 833) (i := (i + 2)) hX ⟨by omega, by omega⟩ dL_law_833 ?_
  refine x_aload_n (pc := 834) hX 0 dL_law_834 rfl rfl ?_
  refine x_iload_n (pc := 835) hX 3 dL_law_835 rfl rfl ?_
  refine x_iconst (pc := 836) hX dL_law_836 ?_
  refine x_iadd (pc := 837) hX dL_law_837 ?_
  refine x_sld (pc := 838) (i := (i + 3)) hX ⟨by omega, by omega⟩ dL_law_838 ?_
  refine x_callM (pc := 839) hX [.int (zI (xys xs (i + 1))), .int (zI (xys xs (i + 2))), .int (zI (xys xs (i + 3)))] [.int (zI r)] (wX6_sheet (ca := ca) hGM e2) zmv_RL_116 rfl rfl ⟨rfl, rfl⟩ ⟨by decide, by decide⟩ (Nat.le_of_ble_eq_true rfl) dL_law_839 ?_
  refine x_eq (pc := 842) (tgt := 1146) hX dL_law_842 (by decide) ?_
  exact k _ _ hrel
def zS_drop (Rel : zM → zM → Prop) (mC mM : zM) : Prop := ∀ a1 : Int, zR a1 → ∃ (r : Int) (mC1 : zM) (mM1 : zM), FX5_drop a1 mC = some (r, mC1) ∧ FX6_drop a1 mM = some (r, mM1) ∧ Rel mC1 mM1
theorem lc_drop {Rel : zM → zM → Prop} {X : xXT} {l : Launch} {b L : Nat} {xs : Nat → Int32} {D : va_G} {ca : Nat → ClassId} {adC adM : Nat → Nat} {mC mM : zM} (hX : xC X l b L xs D ca adC adM) (hGC : zGok (zGC D ca adC)) (hGM : zGok (zGM D ca adM)) {i : Int} (hi : 0 ≤ i ∧ i + 6 ≤ (L : Int)) (h : zS_drop Rel mC mM) (k : ∀ mC1 mM1, Rel mC1 mM1 → xV X mC1 mM1 1146 [(0, .ref b), (1, .ref (adC 0)), (2, .ref (adM 0)), (3, .int (zI i))] []) : xV X mC mM 847 [(0, .ref b), (1, .ref (adC 0)), (2, .ref (adM 0)), (3, .int (zI i))] [] := by
  obtain ⟨r, mC1, mM1, e1, e2, hrel⟩ := h (xys xs (i + 1)) (xys_R _ _)
  refine x_aload_n (pc := 847) hX 1 dL_law_847 rfl rfl ?_
  refine x_aload_n (pc := 848) hX 0 dL_law_848 rfl rfl ?_
  refine x_iload_n (pc := 849) hX 3 dL_law_849 rfl rfl ?_
  refine x_iconst (pc := 850) hX dL_law_850 ?_
  refine x_iadd (pc := 851) hX dL_law_851 ?_
  refine x_sld (pc := 852) (i := (i + 1)) hX ⟨by omega, by omega⟩ dL_law_852 ?_
  refine x_callC (pc := 853) hX [.int (zI (xys xs (i + 1)))] [] (wX5_drop (ca := ca) hGC e1) zmv_RL_117 rfl rfl ⟨rfl, rfl⟩ ⟨by decide, by decide⟩ (Nat.le_of_ble_eq_true rfl) dL_law_853 ?_
  refine x_aload_n (pc := 856) hX 2 dL_law_856 rfl rfl ?_
  refine x_aload_n (pc := 857) hX 0 dL_law_857 rfl rfl ?_
  refine x_iload_n (pc := 858) hX 3 dL_law_858 rfl rfl ?_
  refine x_iconst (pc := 859) hX dL_law_859 ?_
  refine x_iadd (pc := 860) hX dL_law_860 ?_
  refine x_sld (pc := 861) (i := (i + 1)) hX ⟨by omega, by omega⟩ dL_law_861 ?_
  refine x_callM (pc := 862) hX [.int (zI (xys xs (i + 1)))] [.int (zI r)] (wX6_drop (ca := ca) hGM e2) zmv_RL_120 rfl rfl ⟨rfl, rfl⟩ ⟨by decide, by decide⟩ (Nat.le_of_ble_eq_true rfl) dL_law_862 ?_
  refine x_eq (pc := 865) (tgt := 1146) hX dL_law_865 (by decide) ?_
  exact k _ _ hrel
def zS_item (Rel : zM → zM → Prop) (mC mM : zM) : Prop := ∀ a1 : Int, zR a1 → ∀ a2 : Int, zR a2 → ∀ a3 : Int, zR a3 → ∀ a4 : Int, zRl a4 → ∃ (r : Int) (mC1 : zM) (mM1 : zM), FX5_item a1 a2 a3 a4 mC = some (r, mC1) ∧ FX6_item a1 a2 a3 a4 mM = some (r, mM1) ∧ Rel mC1 mM1
theorem lc_item {Rel : zM → zM → Prop} {X : xXT} {l : Launch} {b L : Nat} {xs : Nat → Int32} {D : va_G} {ca : Nat → ClassId} {adC adM : Nat → Nat} {mC mM : zM} (hX : xC X l b L xs D ca adC adM) (hGC : zGok (zGC D ca adC)) (hGM : zGok (zGM D ca adM)) {i : Int} (hi : 0 ≤ i ∧ i + 6 ≤ (L : Int)) (h : zS_item Rel mC mM) (k : ∀ mC1 mM1, Rel mC1 mM1 → xV X mC1 mM1 1146 [(0, .ref b), (1, .ref (adC 0)), (2, .ref (adM 0)), (3, .int (zI i))] []) : xV X mC mM 870 [(0, .ref b), (1, .ref (adC 0)), (2, .ref (adM 0)), (3, .int (zI i))] [] := by
  obtain ⟨r, mC1, mM1, e1, e2, hrel⟩ := h (xys xs (i + 1)) (xys_R _ _) (xys xs (i + 2)) (xys_R _ _) (xys xs (i + 3)) (xys_R _ _) (xlw (xys xs (i + 4)) (xys xs (i + 5))) (xlw_R _ _)
  refine x_aload_n (pc := 870) hX 1 dL_law_870 rfl rfl ?_
  refine x_aload_n (pc := 871) hX 0 dL_law_871 rfl rfl ?_
  refine x_iload_n (pc := 872) hX 3 dL_law_872 rfl rfl ?_
  refine x_iconst (pc := 873) hX dL_law_873 ?_
  refine x_iadd (pc := 874) hX dL_law_874 ?_
  refine x_sld (pc := 875) (i := (i + 1)) hX ⟨by omega, by omega⟩ dL_law_875 ?_
  refine x_aload_n (pc := 876) hX 0 dL_law_876 rfl rfl ?_
  refine x_iload_n (pc := 877) hX 3 dL_law_877 rfl rfl ?_
  refine x_iconst (pc := 878) hX dL_law_878 ?_
  refine x_iadd (pc := 879) hX dL_law_879 ?_
  refine x_sld (pc := 880) (i := (i + 2)) hX ⟨by omega, by omega⟩ dL_law_880 ?_
  refine x_aload_n (pc := 881) hX 0 dL_law_881 rfl rfl ?_
  refine x_iload_n (pc := 882) hX 3 dL_law_882 rfl rfl ?_
  refine x_iconst (pc := 883) hX dL_law_883 ?_
  refine x_iadd (pc := 884) hX dL_law_884 ?_
  refine x_sld (pc := 885) (i := (i + 3)) hX ⟨by omega, by omega⟩ dL_law_885 ?_
  refine x_aload_n (pc := 886) hX 0 dL_law_886 rfl rfl ?_
  refine x_iload_n (pc := 887) hX 3 dL_law_887 rfl rfl ?_
  refine x_iconst (pc := 888) hX dL_law_888 ?_
  refine x_iadd (pc := 889) hX dL_law_889 ?_
  refine x_sld (pc := 890) (i := (i + 4)) hX ⟨by omega, by omega⟩ dL_law_890 ?_
  refine x_long1 (pc := 891) hX dL_law_891 dL_law_892 dL_law_894 ?_
  refine x_aload_n (pc := 895) hX 0 dL_law_895 rfl rfl ?_
  refine x_iload_n (pc := 896) hX 3 dL_law_896 rfl rfl ?_
  refine x_iconst (pc := 897) hX dL_law_897 ?_
  refine x_iadd (pc := 898) hX dL_law_898 ?_
  refine x_sld (pc := 899) (i := (i + 5)) hX ⟨by omega, by omega⟩ dL_law_899 ?_
  refine x_long2 (pc := 900) hX dL_law_900 zk_RL_121 dL_law_901 dL_law_904 dL_law_905 ?_
  refine x_callC (pc := 906) hX [.int (zI (xys xs (i + 1))), .int (zI (xys xs (i + 2))), .int (zI (xys xs (i + 3))), .long (zJ (xlw (xys xs (i + 4)) (xys xs (i + 5))))] [] (wX5_item (ca := ca) hGC e1) zmv_RL_123 rfl rfl ⟨rfl, rfl⟩ ⟨by decide, by decide⟩ (Nat.le_of_ble_eq_true rfl) dL_law_906 ?_
  refine x_aload_n (pc := 909) hX 2 dL_law_909 rfl rfl ?_
  refine x_aload_n (pc := 910) hX 0 dL_law_910 rfl rfl ?_
  refine x_iload_n (pc := 911) hX 3 dL_law_911 rfl rfl ?_
  refine x_iconst (pc := 912) hX dL_law_912 ?_
  refine x_iadd (pc := 913) hX dL_law_913 ?_
  refine x_sld (pc := 914) (i := (i + 1)) hX ⟨by omega, by omega⟩ dL_law_914 ?_
  refine x_aload_n (pc := 915) hX 0 dL_law_915 rfl rfl ?_
  refine x_iload_n (pc := 916) hX 3 dL_law_916 rfl rfl ?_
  refine x_iconst (pc := 917) hX dL_law_917 ?_
  refine x_iadd (pc := 918) hX dL_law_918 ?_
  refine x_sld (pc := 919) (i := (i + 2)) hX ⟨by omega, by omega⟩ dL_law_919 ?_
  refine x_aload_n (pc := 920) hX 0 dL_law_920 rfl rfl ?_
  refine x_iload_n (pc := 921) hX 3 dL_law_921 rfl rfl ?_
  refine x_iconst (pc := 922) hX dL_law_922 ?_
  refine x_iadd (pc := 923) hX dL_law_923 ?_
  refine x_sld (pc := 924) (i := (i + 3)) hX ⟨by omega, by omega⟩ dL_law_924 ?_
  refine x_aload_n (pc := 925) hX 0 dL_law_925 rfl rfl ?_
  refine x_iload_n (pc := 926) hX 3 dL_law_926 rfl rfl ?_
  refine x_iconst (pc := 927) hX dL_law_927 ?_
  refine x_iadd (pc := 928) hX dL_law_928 ?_
  refine x_sld (pc := 929) (i := (i + 4)) hX ⟨by omega, by omega⟩ dL_law_929 ?_
  refine x_long1 (pc := 930) hX dL_law_930 dL_law_931 dL_law_933 ?_
  refine x_aload_n (pc := 934) hX 0 dL_law_934 rfl rfl ?_
  refine x_iload_n (pc := 935) hX 3 dL_law_935 rfl rfl ?_
  refine x_iconst (pc := 936) hX dL_law_936 ?_
  refine x_iadd (pc := 937) hX dL_law_937 ?_
  refine x_sld (pc := 938) (i := (i + 5)) hX ⟨by omega, by omega⟩ dL_law_938 ?_
  refine x_long2 (pc := 939) hX dL_law_939 zk_RL_121 dL_law_940 dL_law_943 dL_law_944 ?_
  refine x_callM (pc := 945) hX [.int (zI (xys xs (i + 1))), .int (zI (xys xs (i + 2))), .int (zI (xys xs (i + 3))), .long (zJ (xlw (xys xs (i + 4)) (xys xs (i + 5))))] [.long (zJ r)] (wX6_item (ca := ca) hGM e2) zmv_RL_127 rfl rfl ⟨rfl, rfl⟩ ⟨by decide, by decide⟩ (Nat.le_of_ble_eq_true rfl) dL_law_945 ?_
  refine x_lcmp (pc := 948) (tgt := 1146) hX dL_law_948 dL_law_949 (by decide) ?_
  exact k _ _ hrel
def zS_copy (Rel : zM → zM → Prop) (mC mM : zM) : Prop := ∀ a1 : Int, zR a1 → ∀ a2 : Int, zR a2 → ∀ a3 : Int, zR a3 → ∀ a4 : Int, zR a4 → ∀ a5 : Int, zR a5 → ∃ (r : Int) (mC1 : zM) (mM1 : zM), FX5_copy a1 a2 a3 a4 a5 mC = some (r, mC1) ∧ FX6_copy a1 a2 a3 a4 a5 mM = some (r, mM1) ∧ Rel mC1 mM1
theorem lc_copy {Rel : zM → zM → Prop} {X : xXT} {l : Launch} {b L : Nat} {xs : Nat → Int32} {D : va_G} {ca : Nat → ClassId} {adC adM : Nat → Nat} {mC mM : zM} (hX : xC X l b L xs D ca adC adM) (hGC : zGok (zGC D ca adC)) (hGM : zGok (zGM D ca adM)) {i : Int} (hi : 0 ≤ i ∧ i + 6 ≤ (L : Int)) (h : zS_copy Rel mC mM) (k : ∀ mC1 mM1, Rel mC1 mM1 → xV X mC1 mM1 1146 [(0, .ref b), (1, .ref (adC 0)), (2, .ref (adM 0)), (3, .int (zI i))] []) : xV X mC mM 954 [(0, .ref b), (1, .ref (adC 0)), (2, .ref (adM 0)), (3, .int (zI i))] [] := by
  obtain ⟨r, mC1, mM1, e1, e2, hrel⟩ := h (xys xs (i + 1)) (xys_R _ _) (xys xs (i + 2)) (xys_R _ _) (xys xs (i + 3)) (xys_R _ _) (xys xs (i + 4)) (xys_R _ _) (xys xs (i + 5)) (xys_R _ _)
  refine x_aload_n (pc := 954) hX 1 dL_law_954 rfl rfl ?_
  refine x_aload_n (pc := 955) hX 0 dL_law_955 rfl rfl ?_
  refine x_iload_n (pc := 956) hX 3 dL_law_956 rfl rfl ?_
  refine x_iconst (pc := 957) hX dL_law_957 ?_
  refine x_iadd (pc := 958) hX dL_law_958 ?_
  refine x_sld (pc := 959) (i := (i + 1)) hX ⟨by omega, by omega⟩ dL_law_959 ?_
  refine x_aload_n (pc := 960) hX 0 dL_law_960 rfl rfl ?_
  refine x_iload_n (pc := 961) hX 3 dL_law_961 rfl rfl ?_
  refine x_iconst (pc := 962) hX dL_law_962 ?_
  refine x_iadd (pc := 963) hX dL_law_963 ?_
  refine x_sld (pc := 964) (i := (i + 2)) hX ⟨by omega, by omega⟩ dL_law_964 ?_
  refine x_aload_n (pc := 965) hX 0 dL_law_965 rfl rfl ?_
  refine x_iload_n (pc := 966) hX 3 dL_law_966 rfl rfl ?_
  refine x_iconst (pc := 967) hX dL_law_967 ?_
  refine x_iadd (pc := 968) hX dL_law_968 ?_
  refine x_sld (pc := 969) (i := (i + 3)) hX ⟨by omega, by omega⟩ dL_law_969 ?_
  refine x_aload_n (pc := 970) hX 0 dL_law_970 rfl rfl ?_
  refine x_iload_n (pc := 971) hX 3 dL_law_971 rfl rfl ?_
  refine x_iconst (pc := 972) hX dL_law_972 ?_
  refine x_iadd (pc := 973) hX dL_law_973 ?_
  refine x_sld (pc := 974) (i := (i + 4)) hX ⟨by omega, by omega⟩ dL_law_974 ?_
  refine x_aload_n (pc := 975) hX 0 dL_law_975 rfl rfl ?_
  refine x_iload_n (pc := 976) hX 3 dL_law_976 rfl rfl ?_
  refine x_iconst (pc := 977) hX dL_law_977 ?_
  refine x_iadd (pc := 978) hX dL_law_978 ?_
  refine x_sld (pc := 979) (i := (i + 5)) hX ⟨by omega, by omega⟩ dL_law_979 ?_
  refine x_callC (pc := 980) hX [.int (zI (xys xs (i + 1))), .int (zI (xys xs (i + 2))), .int (zI (xys xs (i + 3))), .int (zI (xys xs (i + 4))), .int (zI (xys xs (i + 5)))] [] (wX5_copy (ca := ca) hGC e1) zmv_RL_128 rfl rfl ⟨rfl, rfl⟩ ⟨by decide, by decide⟩ (Nat.le_of_ble_eq_true rfl) dL_law_980 ?_
  refine x_aload_n (pc := 983) hX 2 dL_law_983 rfl rfl ?_
  refine x_aload_n (pc := 984) hX 0 dL_law_984 rfl rfl ?_
  refine x_iload_n (pc := 985) hX 3 dL_law_985 rfl rfl ?_
  refine x_iconst (pc := 986) hX dL_law_986 ?_
  refine x_iadd (pc := 987) hX dL_law_987 ?_
  refine x_sld (pc := 988) (i := (i + 1)) hX ⟨by omega, by omega⟩ dL_law_988 ?_
  refine x_aload_n (pc := 989) hX 0 dL_law_989 rfl rfl ?_
  refine x_iload_n (pc := 990) hX 3 dL_law_990 rfl rfl ?_
  refine x_iconst (pc := 991) hX dL_law_991 ?_
  refine x_iadd (pc := 992) hX dL_law_992 ?_
  refine x_sld (pc := 993) (i := (i + 2)) hX ⟨by omega, by omega⟩ dL_law_993 ?_
  refine x_aload_n (pc := 994) hX 0 dL_law_994 rfl rfl ?_
  refine x_iload_n (pc := 995) hX 3 dL_law_995 rfl rfl ?_
  refine x_iconst (pc := 996) hX dL_law_996 ?_
  refine x_iadd (pc := 997) hX dL_law_997 ?_
  refine x_sld (pc := 998) (i := (i + 3)) hX ⟨by omega, by omega⟩ dL_law_998 ?_
  refine x_aload_n (pc := 999) hX 0 dL_law_999 rfl rfl ?_
  refine x_iload_n (pc := 1000) hX 3 dL_law_1000 rfl rfl ?_
  refine x_iconst (pc := 1001) hX dL_law_1001 ?_
  refine x_iadd (pc := 1002) hX dL_law_1002 ?_
  refine x_sld (pc := 1003) (i := (i + 4)) hX ⟨by omega, by omega⟩ dL_law_1003 ?_
  refine x_aload_n (pc := 1004) hX 0 dL_law_1004 rfl rfl ?_
  refine x_iload_n (pc := 1005) hX 3 dL_law_1005 rfl rfl ?_
  refine x_iconst (pc := 1006) hX dL_law_1006 ?_
  refine x_iadd (pc := 1007) hX dL_law_1007 ?_
  refine x_sld (pc := 1008) (i := (i + 5)) hX ⟨by omega, by omega⟩ dL_law_1008 ?_
  refine x_callM (pc := 1009) hX [.int (zI (xys xs (i + 1))), .int (zI (xys xs (i + 2))), .int (zI (xys xs (i + 3))), .int (zI (xys xs (i + 4))), .int (zI (xys xs (i + 5)))] [.int (zI r)] (wX6_copy (ca := ca) hGM e2) zmv_RL_132 rfl rfl ⟨rfl, rfl⟩ ⟨by decide, by decide⟩ (Nat.le_of_ble_eq_true rfl) dL_law_1009 ?_
  refine x_eq (pc := 1012) (tgt := 1146) hX dL_law_1012 (by decide) ?_
  exact k _ _ hrel
def zS_spell (Rel : zM → zM → Prop) (mC mM : zM) : Prop := ∀ a1 : Int, zR a1 → ∀ a2 : Int, zR a2 → ∀ a3 : Int, zR a3 → ∀ a4 : Int, zR a4 → ∃ (r : Int) (mC1 : zM) (mM1 : zM), FX5_spell a1 a2 a3 a4 mC = some (r, mC1) ∧ FX6_spell a1 a2 a3 a4 mM = some (r, mM1) ∧ Rel mC1 mM1
theorem lc_spell {Rel : zM → zM → Prop} {X : xXT} {l : Launch} {b L : Nat} {xs : Nat → Int32} {D : va_G} {ca : Nat → ClassId} {adC adM : Nat → Nat} {mC mM : zM} (hX : xC X l b L xs D ca adC adM) (hGC : zGok (zGC D ca adC)) (hGM : zGok (zGM D ca adM)) {i : Int} (hi : 0 ≤ i ∧ i + 6 ≤ (L : Int)) (h : zS_spell Rel mC mM) (k : ∀ mC1 mM1, Rel mC1 mM1 → xV X mC1 mM1 1146 [(0, .ref b), (1, .ref (adC 0)), (2, .ref (adM 0)), (3, .int (zI i))] []) : xV X mC mM 1017 [(0, .ref b), (1, .ref (adC 0)), (2, .ref (adM 0)), (3, .int (zI i))] [] := by
  obtain ⟨r, mC1, mM1, e1, e2, hrel⟩ := h (xys xs (i + 1)) (xys_R _ _) (xys xs (i + 2)) (xys_R _ _) (xys xs (i + 3)) (xys_R _ _) (xys xs (i + 4)) (xys_R _ _)
  refine x_aload_n (pc := 1017) hX 1 dL_law_1017 rfl rfl ?_
  refine x_aload_n (pc := 1018) hX 0 dL_law_1018 rfl rfl ?_
  refine x_iload_n (pc := 1019) hX 3 dL_law_1019 rfl rfl ?_
  refine x_iconst (pc := 1020) hX dL_law_1020 ?_
  refine x_iadd (pc := 1021) hX dL_law_1021 ?_
  refine x_sld (pc := 1022) (i := (i + 1)) hX ⟨by omega, by omega⟩ dL_law_1022 ?_
  refine x_aload_n (pc := 1023) hX 0 dL_law_1023 rfl rfl ?_
  refine x_iload_n (pc := 1024) hX 3 dL_law_1024 rfl rfl ?_
  refine x_iconst (pc := 1025) hX dL_law_1025 ?_
  refine x_iadd (pc := 1026) hX dL_law_1026 ?_
  refine x_sld (pc := 1027) (i := (i + 2)) hX ⟨by omega, by omega⟩ dL_law_1027 ?_
  refine x_aload_n (pc := 1028) hX 0 dL_law_1028 rfl rfl ?_
  refine x_iload_n (pc := 1029) hX 3 dL_law_1029 rfl rfl ?_
  refine x_iconst (pc := 1030) hX dL_law_1030 ?_
  refine x_iadd (pc := 1031) hX dL_law_1031 ?_
  refine x_sld (pc := 1032) (i := (i + 3)) hX ⟨by omega, by omega⟩ dL_law_1032 ?_
  refine x_aload_n (pc := 1033) hX 0 dL_law_1033 rfl rfl ?_
  refine x_iload_n (pc := 1034) hX 3 dL_law_1034 rfl rfl ?_
  refine x_iconst (pc := 1035) hX dL_law_1035 ?_
  refine x_iadd (pc := 1036) hX dL_law_1036 ?_
  refine x_sld (pc := 1037) (i := (i + 4)) hX ⟨by omega, by omega⟩ dL_law_1037 ?_
  refine x_callC (pc := 1038) hX [.int (zI (xys xs (i + 1))), .int (zI (xys xs (i + 2))), .int (zI (xys xs (i + 3))), .int (zI (xys xs (i + 4)))] [] (wX5_spell (ca := ca) hGC e1) zmv_RL_133 rfl rfl ⟨rfl, rfl⟩ ⟨by decide, by decide⟩ (Nat.le_of_ble_eq_true rfl) dL_law_1038 ?_
  refine x_aload_n (pc := 1041) hX 2 dL_law_1041 rfl rfl ?_
  refine x_aload_n (pc := 1042) hX 0 dL_law_1042 rfl rfl ?_
  refine x_iload_n (pc := 1043) hX 3 dL_law_1043 rfl rfl ?_
  refine x_iconst (pc := 1044) hX dL_law_1044 ?_
  refine x_iadd (pc := 1045) hX dL_law_1045 ?_
  refine x_sld (pc := 1046) (i := (i + 1)) hX ⟨by omega, by omega⟩ dL_law_1046 ?_
  refine x_aload_n (pc := 1047) hX 0 dL_law_1047 rfl rfl ?_
  refine x_iload_n (pc := 1048) hX 3 dL_law_1048 rfl rfl ?_
  refine x_iconst (pc := 1049) hX dL_law_1049 ?_
  refine x_iadd (pc := 1050) hX dL_law_1050 ?_
  refine x_sld (pc := 1051) (i := (i + 2)) hX ⟨by omega, by omega⟩ dL_law_1051 ?_
  refine x_aload_n (pc := 1052) hX 0 dL_law_1052 rfl rfl ?_
  refine x_iload_n (pc := 1053) hX 3 dL_law_1053 rfl rfl ?_
  refine x_iconst (pc := 1054) hX dL_law_1054 ?_
  refine x_iadd (pc := 1055) hX dL_law_1055 ?_
  refine x_sld (pc := 1056) (i := (i + 3)) hX ⟨by omega, by omega⟩ dL_law_1056 ?_
  refine x_aload_n (pc := 1057) hX 0 dL_law_1057 rfl rfl ?_
  refine x_iload_n (pc := 1058) hX 3 dL_law_1058 rfl rfl ?_
  refine x_iconst (pc := 1059) hX dL_law_1059 ?_
  refine x_iadd (pc := 1060) hX dL_law_1060 ?_
  refine x_sld (pc := 1061) (i := (i + 4)) hX ⟨by omega, by omega⟩ dL_law_1061 ?_
  refine x_callM (pc := 1062) hX [.int (zI (xys xs (i + 1))), .int (zI (xys xs (i + 2))), .int (zI (xys xs (i + 3))), .int (zI (xys xs (i + 4)))] [.int (zI r)] (wX6_spell (ca := ca) hGM e2) zmv_RL_137 rfl rfl ⟨rfl, rfl⟩ ⟨by decide, by decide⟩ (Nat.le_of_ble_eq_true rfl) dL_law_1062 ?_
  refine x_eq (pc := 1065) (tgt := 1146) hX dL_law_1065 (by decide) ?_
  exact k _ _ hrel
def zS_read (Rel : zM → zM → Prop) (mC mM : zM) : Prop := ∀ a1 : Int, zR a1 → ∀ a2 : Int, zR a2 → ∀ a3 : Int, zR a3 → ∀ a4 : Int, zR a4 → ∃ (r : Int) (mC1 : zM) (mM1 : zM), FX5_read a1 a2 a3 a4 mC = some (r, mC1) ∧ FX6_read a1 a2 a3 a4 mM = some (r, mM1) ∧ Rel mC1 mM1
theorem lc_read {Rel : zM → zM → Prop} {X : xXT} {l : Launch} {b L : Nat} {xs : Nat → Int32} {D : va_G} {ca : Nat → ClassId} {adC adM : Nat → Nat} {mC mM : zM} (hX : xC X l b L xs D ca adC adM) (hGC : zGok (zGC D ca adC)) (hGM : zGok (zGM D ca adM)) {i : Int} (hi : 0 ≤ i ∧ i + 6 ≤ (L : Int)) (h : zS_read Rel mC mM) (k : ∀ mC1 mM1, Rel mC1 mM1 → xV X mC1 mM1 1146 [(0, .ref b), (1, .ref (adC 0)), (2, .ref (adM 0)), (3, .int (zI i))] []) : xV X mC mM 1070 [(0, .ref b), (1, .ref (adC 0)), (2, .ref (adM 0)), (3, .int (zI i))] [] := by
  obtain ⟨r, mC1, mM1, e1, e2, hrel⟩ := h (xys xs (i + 1)) (xys_R _ _) (xys xs (i + 2)) (xys_R _ _) (xys xs (i + 3)) (xys_R _ _) (xys xs (i + 4)) (xys_R _ _)
  refine x_aload_n (pc := 1070) hX 1 dL_law_1070 rfl rfl ?_
  refine x_aload_n (pc := 1071) hX 0 dL_law_1071 rfl rfl ?_
  refine x_iload_n (pc := 1072) hX 3 dL_law_1072 rfl rfl ?_
  refine x_iconst (pc := 1073) hX dL_law_1073 ?_
  refine x_iadd (pc := 1074) hX dL_law_1074 ?_
  refine x_sld (pc := 1075) (i := (i + 1)) hX ⟨by omega, by omega⟩ dL_law_1075 ?_
  refine x_aload_n (pc := 1076) hX 0 dL_law_1076 rfl rfl ?_
  refine x_iload_n (pc := 1077) hX 3 dL_law_1077 rfl rfl ?_
  refine x_iconst (pc := 1078) hX dL_law_1078 ?_
  refine x_iadd (pc := 1079) hX dL_law_1079 ?_
  refine x_sld (pc := 1080) (i := (i + 2)) hX ⟨by omega, by omega⟩ dL_law_1080 ?_
  refine x_aload_n (pc := 1081) hX 0 dL_law_1081 rfl rfl ?_
  refine x_iload_n (pc := 1082) hX 3 dL_law_1082 rfl rfl ?_
  refine x_iconst (pc := 1083) hX dL_law_1083 ?_
  refine x_iadd (pc := 1084) hX dL_law_1084 ?_
  refine x_sld (pc := 1085) (i := (i + 3)) hX ⟨by omega, by omega⟩ dL_law_1085 ?_
  refine x_aload_n (pc := 1086) hX 0 dL_law_1086 rfl rfl ?_
  refine x_iload_n (pc := 1087) hX 3 dL_law_1087 rfl rfl ?_
  refine x_iconst (pc := 1088) hX dL_law_1088 ?_
  refine x_iadd (pc := 1089) hX dL_law_1089 ?_
  refine x_sld (pc := 1090) (i := (i + 4)) hX ⟨by omega, by omega⟩ dL_law_1090 ?_
  refine x_callC (pc := 1091) hX [.int (zI (xys xs (i + 1))), .int (zI (xys xs (i + 2))), .int (zI (xys xs (i + 3))), .int (zI (xys xs (i + 4)))] [] (wX5_read (ca := ca) hGC e1) zmv_RL_138 rfl rfl ⟨rfl, rfl⟩ ⟨by decide, by decide⟩ (Nat.le_of_ble_eq_true rfl) dL_law_1091 ?_
  refine x_aload_n (pc := 1094) hX 2 dL_law_1094 rfl rfl ?_
  refine x_aload_n (pc := 1095) hX 0 dL_law_1095 rfl rfl ?_
  refine x_iload_n (pc := 1096) hX 3 dL_law_1096 rfl rfl ?_
  refine x_iconst (pc := 1097) hX dL_law_1097 ?_
  refine x_iadd (pc := 1098) hX dL_law_1098 ?_
  refine x_sld (pc := 1099) (i := (i + 1)) hX ⟨by omega, by omega⟩ dL_law_1099 ?_
  refine x_aload_n (pc := 1100) hX 0 dL_law_1100 rfl rfl ?_
  refine x_iload_n (pc := 1101) hX 3 dL_law_1101 rfl rfl ?_
  refine x_iconst (pc := 1102) hX dL_law_1102 ?_
  refine x_iadd (pc := 1103) hX dL_law_1103 ?_
  refine x_sld (pc := 1104) (i := (i + 2)) hX ⟨by omega, by omega⟩ dL_law_1104 ?_
  refine x_aload_n (pc := 1105) hX 0 dL_law_1105 rfl rfl ?_
  refine x_iload_n (pc := 1106) hX 3 dL_law_1106 rfl rfl ?_
  refine x_iconst (pc := 1107) hX dL_law_1107 ?_
  refine x_iadd (pc := 1108) hX dL_law_1108 ?_
  refine x_sld (pc := 1109) (i := (i + 3)) hX ⟨by omega, by omega⟩ dL_law_1109 ?_
  refine x_aload_n (pc := 1110) hX 0 dL_law_1110 rfl rfl ?_
  refine x_iload_n (pc := 1111) hX 3 dL_law_1111 rfl rfl ?_
  refine x_iconst (pc := 1112) hX dL_law_1112 ?_
  refine x_iadd (pc := 1113) hX dL_law_1113 ?_
  refine x_sld (pc := 1114) (i := (i + 4)) hX ⟨by omega, by omega⟩ dL_law_1114 ?_
  refine x_callM (pc := 1115) hX [.int (zI (xys xs (i + 1))), .int (zI (xys xs (i + 2))), .int (zI (xys xs (i + 3))), .int (zI (xys xs (i + 4)))] [.int (zI r)] (wX6_read (ca := ca) hGM e2) zmv_RL_141 rfl rfl ⟨rfl, rfl⟩ ⟨by decide, by decide⟩ (Nat.le_of_ble_eq_true rfl) dL_law_1115 ?_
  refine x_eq (pc := 1118) (tgt := 1146) hX dL_law_1118 (by decide) ?_
  exact k _ _ hrel
def zS_count (Rel : zM → zM → Prop) (mC mM : zM) : Prop := ∀ a1 : Int, zR a1 → ∃ (r : Int) (mM1 : zM), FX5_count a1 mC = some r ∧ FX6_count a1 mM = some (r, mM1) ∧ Rel mC mM1
theorem lc_count {Rel : zM → zM → Prop} {X : xXT} {l : Launch} {b L : Nat} {xs : Nat → Int32} {D : va_G} {ca : Nat → ClassId} {adC adM : Nat → Nat} {mC mM : zM} (hX : xC X l b L xs D ca adC adM) (hGC : zGok (zGC D ca adC)) (hGM : zGok (zGM D ca adM)) {i : Int} (hi : 0 ≤ i ∧ i + 6 ≤ (L : Int)) (h : zS_count Rel mC mM) (k : ∀ mC1 mM1, Rel mC1 mM1 → xV X mC1 mM1 1146 [(0, .ref b), (1, .ref (adC 0)), (2, .ref (adM 0)), (3, .int (zI i))] []) : xV X mC mM 1123 [(0, .ref b), (1, .ref (adC 0)), (2, .ref (adM 0)), (3, .int (zI i))] [] := by
  obtain ⟨r, mM1, e1, e2, hrel⟩ := h (xys xs (i + 1)) (xys_R _ _)
  refine x_aload_n (pc := 1123) hX 1 dL_law_1123 rfl rfl ?_
  refine x_aload_n (pc := 1124) hX 0 dL_law_1124 rfl rfl ?_
  refine x_iload_n (pc := 1125) hX 3 dL_law_1125 rfl rfl ?_
  refine x_iconst (pc := 1126) hX dL_law_1126 ?_
  refine x_iadd (pc := 1127) hX dL_law_1127 ?_
  refine x_sld (pc := 1128) (i := (i + 1)) hX ⟨by omega, by omega⟩ dL_law_1128 ?_
  refine x_callC (pc := 1129) hX [.int (zI (xys xs (i + 1)))] [] (wX5_count (ca := ca) hGC e1) zmv_RL_142 rfl rfl ⟨rfl, rfl⟩ ⟨by decide, by decide⟩ (Nat.le_of_ble_eq_true rfl) dL_law_1129 ?_
  refine x_aload_n (pc := 1132) hX 2 dL_law_1132 rfl rfl ?_
  refine x_aload_n (pc := 1133) hX 0 dL_law_1133 rfl rfl ?_
  refine x_iload_n (pc := 1134) hX 3 dL_law_1134 rfl rfl ?_
  refine x_iconst (pc := 1135) hX dL_law_1135 ?_
  refine x_iadd (pc := 1136) hX dL_law_1136 ?_
  refine x_sld (pc := 1137) (i := (i + 1)) hX ⟨by omega, by omega⟩ dL_law_1137 ?_
  refine x_callM (pc := 1138) hX [.int (zI (xys xs (i + 1)))] [.int (zI r)] (wX6_count (ca := ca) hGM e2) zmv_RL_145 rfl rfl ⟨rfl, rfl⟩ ⟨by decide, by decide⟩ (Nat.le_of_ble_eq_true rfl) dL_law_1138 ?_
  refine x_eq (pc := 1141) (tgt := 1146) hX dL_law_1141 (by decide) ?_
  exact k _ _ hrel
def zOK (Rel : zM → zM → Prop) : Prop := Rel zc0 zm0 ∧ ∀ mC mM, Rel mC mM → zS_put Rel mC mM ∧ zS_pop Rel mC mM ∧ zS_change Rel mC mM ∧ zS_undo Rel mC mM ∧ zS_letter Rel mC mM ∧ zS_node Rel mC mM ∧ zS_keep Rel mC mM ∧ zS_back Rel mC mM ∧ zS_common Rel mC mM ∧ zS_ends Rel mC mM ∧ zS_groups Rel mC mM ∧ zS_cuts Rel mC mM ∧ zS_evens Rel mC mM ∧ zS_in Rel mC mM ∧ zS_mend Rel mC mM ∧ zS_turned Rel mC mM ∧ zS_next Rel mC mM ∧ zS_grow Rel mC mM ∧ zS_odds Rel mC mM ∧ zS_walks Rel mC mM ∧ zS_feed Rel mC mM ∧ zS_clear Rel mC mM ∧ zS_find Rel mC mM ∧ zS_times Rel mC mM ∧ zS_sheet Rel mC mM ∧ zS_drop Rel mC mM ∧ zS_item Rel mC mM ∧ zS_copy Rel mC mM ∧ zS_spell Rel mC mM ∧ zS_read Rel mC mM ∧ zS_count Rel mC mM
theorem x_and31 (x : Int32) : ∃ j : Nat, j ≤ 31 ∧ (x &&& zI 31).toInt = (j : Int) := by
  obtain ⟨j, h1, h2⟩ := pk_andE x (m := zI 31) 5 (by decide +kernel)
  exact ⟨j, by omega, by rw [h2, nI_toInt (by omega)]⟩
set_option maxRecDepth 20000 in
set_option maxHeartbeats 4000000 in
theorem law_loop {Rel : zM → zM → Prop} (hR : ∀ mC mM, Rel mC mM → zS_put Rel mC mM ∧ zS_pop Rel mC mM ∧ zS_change Rel mC mM ∧ zS_undo Rel mC mM ∧ zS_letter Rel mC mM ∧ zS_node Rel mC mM ∧ zS_keep Rel mC mM ∧ zS_back Rel mC mM ∧ zS_common Rel mC mM ∧ zS_ends Rel mC mM ∧ zS_groups Rel mC mM ∧ zS_cuts Rel mC mM ∧ zS_evens Rel mC mM ∧ zS_in Rel mC mM ∧ zS_mend Rel mC mM ∧ zS_turned Rel mC mM ∧ zS_next Rel mC mM ∧ zS_grow Rel mC mM ∧ zS_odds Rel mC mM ∧ zS_walks Rel mC mM ∧ zS_feed Rel mC mM ∧ zS_clear Rel mC mM ∧ zS_find Rel mC mM ∧ zS_times Rel mC mM ∧ zS_sheet Rel mC mM ∧ zS_drop Rel mC mM ∧ zS_item Rel mC mM ∧ zS_copy Rel mC mM ∧ zS_spell Rel mC mM ∧ zS_read Rel mC mM ∧ zS_count Rel mC mM) {X : xXT} {l : Launch} {b L : Nat} {xs : Nat → Int32} {D : va_G} {ca : Nat → ClassId} {adC adM : Nat → Nat} (hX : xC X l b L xs D ca adC adM) (hGC : zGok (zGC D ca adC)) (hGM : zGok (zGM D ca adM)) (hL : L ≤ 3072) : ∀ (n : Nat) (i : Int) (mC mM : zM), 0 ≤ i → i ≤ L → (L : Int) - i < n → Rel mC mM → xV X mC mM 18 [(0, .ref b), (1, .ref (adC 0)), (2, .ref (adM 0)), (3, .int (zI i))] [] := by
  intro n
  induction n with
  | zero => intro i mC mM h0 h1 h2; omega
  | succ n ih =>
    intro i mC mM h0 h1 h2 hrel
    refine x_iload_n (pc := 18) hX 3 dL_law_18 rfl rfl ?_
    refine x_aload_n (pc := 19) hX 0 dL_law_19 rfl rfl ?_
    refine x_slen (pc := 20) hX dL_law_20 ?_
    refine x_bipush (pc := 21) hX dL_law_21 (by decide +kernel) ?_
    refine x_isub (pc := 23) hX dL_law_23 ?_
    refine x_gt (pc := 24) (tgt := 1152) hX dL_law_24 (by decide) (fun hc => ?_) (fun hc => ?_)
    · refine x_iconst (pc := 1152) hX dL_law_1152 ?_
      exact x_ret (pc := 1153) hX dL_law_1153
    · rw [zI_lt ⟨by omega, by omega⟩ ⟨by omega, by omega⟩] at hc
      have hi : 0 ≤ i ∧ i + 6 ≤ (L : Int) := ⟨h0, by omega⟩
      have kk : ∀ mC1 mM1, Rel mC1 mM1 → xV X mC1 mM1 1146 [(0, .ref b), (1, .ref (adC 0)), (2, .ref (adM 0)), (3, .int (zI i))] [] := by
        intro mC1 mM1 hr
        refine x_iinc (pc := 1146) (lv' := [(3, .int (zI (i + 6))), (0, .ref b), (1, .ref (adC 0)), (2, .ref (adM 0))]) hX 3 dL_law_1146 rfl (by decide) rfl ?_
        refine x_goto (pc := 1149) (tgt := 18) hX dL_law_1149 (by decide) ?_
        have h9 := ih (i + 6) mC1 mM1 (by omega) (by omega) (by omega) hr
        obtain ⟨p, l, e, s, mI, below, meth, cd, b, L, xs, D, ca, adC, adM⟩ := X
        obtain ⟨rfl, rfl, rfl, rfl, rfl, rfl, rfl, rfl, -⟩ := hX
        exact fun H locs ls h1 h2 h3 h4 => h9 H locs ls h1 h2 h3 (lv_sub h4 [1, 2, 3, 0] rfl)
      refine x_aload_n (pc := 27) hX 0 dL_law_27 rfl rfl ?_
      refine x_iload_n (pc := 28) hX 3 dL_law_28 rfl rfl ?_
      refine x_sld (pc := 29) hX ⟨by omega, by omega⟩ dL_law_29 ?_
      refine x_bipush (pc := 30) hX dL_law_30 (by decide +kernel) ?_
      refine x_and (pc := 32) hX dL_law_32 ?_
      obtain ⟨j, hj, hje⟩ := x_and31 (zI (xys xs i))
      obtain ⟨s0, s1, s2, s3, s4, s5, s6, s7, s8, s9, s10, s11, s12, s13, s14, s15, s16, s17, s18, s19, s20, s21, s22, s23, s24, s25, s26, s27, s28, s29, s30⟩ := hR mC mM hrel
      match j, hj, hje with
      | 0, _, hje => exact x_tabIn (pc := 33) (tgt := 172) hX 0 ⟨hje, by decide⟩ dL_law_33 rfl (by decide) (lc_put hX hGC hGM hi s0 kk)
      | 1, _, hje => exact x_tabIn (pc := 33) (tgt := 195) hX 1 ⟨hje, by decide⟩ dL_law_33 rfl (by decide) (lc_pop hX hGC hGM hi s1 kk)
      | 2, _, hje => exact x_tabIn (pc := 33) (tgt := 208) hX 2 ⟨hje, by decide⟩ dL_law_33 rfl (by decide) (lc_change hX hGC hGM hi s2 kk)
      | 3, _, hje => exact x_tabIn (pc := 33) (tgt := 241) hX 3 ⟨hje, by decide⟩ dL_law_33 rfl (by decide) (lc_undo hX hGC hGM hi s3 kk)
      | 4, _, hje => exact x_tabIn (pc := 33) (tgt := 254) hX 4 ⟨hje, by decide⟩ dL_law_33 rfl (by decide) (lc_letter hX hGC hGM hi s4 kk)
      | 5, _, hje => exact x_tabIn (pc := 33) (tgt := 277) hX 5 ⟨hje, by decide⟩ dL_law_33 rfl (by decide) (lc_node hX hGC hGM hi s5 kk)
      | 6, _, hje => exact x_tabIn (pc := 33) (tgt := 310) hX 6 ⟨hje, by decide⟩ dL_law_33 rfl (by decide) (lc_keep hX hGC hGM hi s6 kk)
      | 7, _, hje => exact x_tabIn (pc := 33) (tgt := 333) hX 7 ⟨hje, by decide⟩ dL_law_33 rfl (by decide) (lc_back hX hGC hGM hi s7 kk)
      | 8, _, hje => exact x_tabIn (pc := 33) (tgt := 356) hX 8 ⟨hje, by decide⟩ dL_law_33 rfl (by decide) (lc_common hX hGC hGM hi s8 kk)
      | 9, _, hje => exact x_tabIn (pc := 33) (tgt := 389) hX 9 ⟨hje, by decide⟩ dL_law_33 rfl (by decide) (lc_ends hX hGC hGM hi s9 kk)
      | 10, _, hje => exact x_tabIn (pc := 33) (tgt := 422) hX 10 ⟨hje, by decide⟩ dL_law_33 rfl (by decide) (lc_groups hX hGC hGM hi s10 kk)
      | 11, _, hje => exact x_tabIn (pc := 33) (tgt := 445) hX 11 ⟨hje, by decide⟩ dL_law_33 rfl (by decide) (lc_cuts hX hGC hGM hi s11 kk)
      | 12, _, hje => exact x_tabIn (pc := 33) (tgt := 478) hX 12 ⟨hje, by decide⟩ dL_law_33 rfl (by decide) (lc_evens hX hGC hGM hi s12 kk)
      | 13, _, hje => exact x_tabIn (pc := 33) (tgt := 501) hX 13 ⟨hje, by decide⟩ dL_law_33 rfl (by decide) (lc_in hX hGC hGM hi s13 kk)
      | 14, _, hje => exact x_tabIn (pc := 33) (tgt := 544) hX 14 ⟨hje, by decide⟩ dL_law_33 rfl (by decide) (lc_mend hX hGC hGM hi s14 kk)
      | 15, _, hje => exact x_tabIn (pc := 33) (tgt := 567) hX 15 ⟨hje, by decide⟩ dL_law_33 rfl (by decide) (lc_turned hX hGC hGM hi s15 kk)
      | 16, _, hje => exact x_tabIn (pc := 33) (tgt := 590) hX 16 ⟨hje, by decide⟩ dL_law_33 rfl (by decide) (lc_next hX hGC hGM hi s16 kk)
      | 17, _, hje => exact x_tabIn (pc := 33) (tgt := 623) hX 17 ⟨hje, by decide⟩ dL_law_33 rfl (by decide) (lc_grow hX hGC hGM hi s17 kk)
      | 18, _, hje => exact x_tabIn (pc := 33) (tgt := 656) hX 18 ⟨hje, by decide⟩ dL_law_33 rfl (by decide) (lc_odds hX hGC hGM hi s18 kk)
      | 19, _, hje => exact x_tabIn (pc := 33) (tgt := 699) hX 19 ⟨hje, by decide⟩ dL_law_33 rfl (by decide) (lc_walks hX hGC hGM hi s19 kk)
      | 20, _, hje => exact x_tabIn (pc := 33) (tgt := 742) hX 20 ⟨hje, by decide⟩ dL_law_33 rfl (by decide) (lc_feed hX hGC hGM hi s20 kk)
      | 21, _, hje => exact x_tabIn (pc := 33) (tgt := 765) hX 21 ⟨hje, by decide⟩ dL_law_33 rfl (by decide) (lc_clear hX hGC hGM hi s21 kk)
      | 22, _, hje => exact x_tabIn (pc := 33) (tgt := 778) hX 22 ⟨hje, by decide⟩ dL_law_33 rfl (by decide) (lc_find hX hGC hGM hi s22 kk)
      | 23, _, hje => exact x_tabIn (pc := 33) (tgt := 791) hX 23 ⟨hje, by decide⟩ dL_law_33 rfl (by decide) (lc_times hX hGC hGM hi s23 kk)
      | 24, _, hje => exact x_tabIn (pc := 33) (tgt := 804) hX 24 ⟨hje, by decide⟩ dL_law_33 rfl (by decide) (lc_sheet hX hGC hGM hi s24 kk)
      | 25, _, hje => exact x_tabIn (pc := 33) (tgt := 847) hX 25 ⟨hje, by decide⟩ dL_law_33 rfl (by decide) (lc_drop hX hGC hGM hi s25 kk)
      | 26, _, hje => exact x_tabIn (pc := 33) (tgt := 870) hX 26 ⟨hje, by decide⟩ dL_law_33 rfl (by decide) (lc_item hX hGC hGM hi s26 kk)
      | 27, _, hje => exact x_tabIn (pc := 33) (tgt := 954) hX 27 ⟨hje, by decide⟩ dL_law_33 rfl (by decide) (lc_copy hX hGC hGM hi s27 kk)
      | 28, _, hje => exact x_tabIn (pc := 33) (tgt := 1017) hX 28 ⟨hje, by decide⟩ dL_law_33 rfl (by decide) (lc_spell hX hGC hGM hi s28 kk)
      | 29, _, hje => exact x_tabIn (pc := 33) (tgt := 1070) hX 29 ⟨hje, by decide⟩ dL_law_33 rfl (by decide) (lc_read hX hGC hGM hi s29 kk)
      | 30, _, hje => exact x_tabIn (pc := 33) (tgt := 1123) hX 30 ⟨hje, by decide⟩ dL_law_33 rfl (by decide) (lc_count hX hGC hGM hi s30 kk)
      | 31, _, hje => exact x_tabOut (pc := 33) (tgt := 1146) hX (Or.inr (by rw [hje]; decide)) dL_law_33 (by decide) (kk _ _ hrel)
      | (j + 32), hj, _ => exact absurd hj (by omega)
