section ZW
variable {X : zXT} {l : Launch} {R : Room} {G : zG} {v0 : Option Value} {m0 : zM} {cc : ByteArray} {nL : Nat} {own : String} {ret : Option FieldType}
variable {m : zM} {pc : Nat} {lv lv' : List (Nat × Value)} {st : List Value}
theorem zI_0 : zI 0 = 0 := by decide +kernel
theorem z_goto (hX : zC X l R G v0 m0 cc nL own ret) {off : Int} {tgt : Nat} (hd : decode cc pc = .ok (.goto off, 3)) (ht : (pc : Int) + off = (tgt : Int)) (k : zV X nL m tgt lv st) : zV X nL m pc lv st := by
  obtain ⟨p, l, e, R, s, mI, args, below, meth, cd, G, v0, m0⟩ := X
  obtain ⟨rfl, rfl, rfl, rfl, rfl, hx, hb, hml, hown, hts, hK, ⟨hok, hnw⟩, hr, hlk⟩ := hX
  exact fun H locs ls h1 h2 h3 => lv_goto hx hb hd ht (k H locs ls h1 h2 h3)
theorem z_icmp_eq (hX : zC X l R G v0 m0 cc nL own ret) {a b : Int} {off : Int} {tgt : Nat} (hd : decode cc pc = .ok (.if_icmp .eq off, 3)) (ht : (pc : Int) + off = (tgt : Int)) (kt : zI a = zI b → zV X nL m tgt lv st) (kf : ¬ zI a = zI b → zV X nL m (pc + 3) lv st) : zV X nL m pc lv (.int (zI b) :: .int (zI a) :: st) := by
  obtain ⟨p, l, e, R, s, mI, args, below, meth, cd, G, v0, m0⟩ := X
  obtain ⟨rfl, rfl, rfl, rfl, rfl, hx, hb, hml, hown, hts, hK, ⟨hok, hnw⟩, hr, hlk⟩ := hX
  exact fun H locs ls h1 h2 h3 => lv_icmp_eq hx hb hd ht (fun q => kt (q) H locs ls h1 h2 h3) (fun q => kf (q) H locs ls h1 h2 h3)
theorem z_if_eq (hX : zC X l R G v0 m0 cc nL own ret) {a : Int} {off : Int} {tgt : Nat} (hd : decode cc pc = .ok (.ifCond .eq off, 3)) (ht : (pc : Int) + off = (tgt : Int)) (kt : zI a = zI 0 → zV X nL m tgt lv st) (kf : ¬ zI a = zI 0 → zV X nL m (pc + 3) lv st) : zV X nL m pc lv (.int (zI a) :: st) := by
  obtain ⟨p, l, e, R, s, mI, args, below, meth, cd, G, v0, m0⟩ := X
  obtain ⟨rfl, rfl, rfl, rfl, rfl, hx, hb, hml, hown, hts, hK, ⟨hok, hnw⟩, hr, hlk⟩ := hX
  rw [zI_0] at kt kf
  exact fun H locs ls h1 h2 h3 => lv_if_eq hx hb hd ht (fun q => kt (q) H locs ls h1 h2 h3) (fun q => kf (q) H locs ls h1 h2 h3)
theorem z_icmp_ne (hX : zC X l R G v0 m0 cc nL own ret) {a b : Int} {off : Int} {tgt : Nat} (hd : decode cc pc = .ok (.if_icmp .ne off, 3)) (ht : (pc : Int) + off = (tgt : Int)) (kt : ¬ zI a = zI b → zV X nL m tgt lv st) (kf : zI a = zI b → zV X nL m (pc + 3) lv st) : zV X nL m pc lv (.int (zI b) :: .int (zI a) :: st) := by
  obtain ⟨p, l, e, R, s, mI, args, below, meth, cd, G, v0, m0⟩ := X
  obtain ⟨rfl, rfl, rfl, rfl, rfl, hx, hb, hml, hown, hts, hK, ⟨hok, hnw⟩, hr, hlk⟩ := hX
  exact fun H locs ls h1 h2 h3 => lv_icmp_ne hx hb hd ht (fun q => kt (q) H locs ls h1 h2 h3) (fun q => kf (q) H locs ls h1 h2 h3)
theorem z_if_ne (hX : zC X l R G v0 m0 cc nL own ret) {a : Int} {off : Int} {tgt : Nat} (hd : decode cc pc = .ok (.ifCond .ne off, 3)) (ht : (pc : Int) + off = (tgt : Int)) (kt : ¬ zI a = zI 0 → zV X nL m tgt lv st) (kf : zI a = zI 0 → zV X nL m (pc + 3) lv st) : zV X nL m pc lv (.int (zI a) :: st) := by
  obtain ⟨p, l, e, R, s, mI, args, below, meth, cd, G, v0, m0⟩ := X
  obtain ⟨rfl, rfl, rfl, rfl, rfl, hx, hb, hml, hown, hts, hK, ⟨hok, hnw⟩, hr, hlk⟩ := hX
  rw [zI_0] at kt kf
  exact fun H locs ls h1 h2 h3 => lv_if_ne hx hb hd ht (fun q => kt (q) H locs ls h1 h2 h3) (fun q => kf (q) H locs ls h1 h2 h3)
theorem z_icmp_lt (hX : zC X l R G v0 m0 cc nL own ret) {a b : Int} {off : Int} {tgt : Nat} (hd : decode cc pc = .ok (.if_icmp .lt off, 3)) (ht : (pc : Int) + off = (tgt : Int)) (kt : zI a < zI b → zV X nL m tgt lv st) (kf : ¬ zI a < zI b → zV X nL m (pc + 3) lv st) : zV X nL m pc lv (.int (zI b) :: .int (zI a) :: st) := by
  obtain ⟨p, l, e, R, s, mI, args, below, meth, cd, G, v0, m0⟩ := X
  obtain ⟨rfl, rfl, rfl, rfl, rfl, hx, hb, hml, hown, hts, hK, ⟨hok, hnw⟩, hr, hlk⟩ := hX
  exact fun H locs ls h1 h2 h3 => lv_icmp_lt hx hb hd ht (fun q => kt (q) H locs ls h1 h2 h3) (fun q => kf (q) H locs ls h1 h2 h3)
theorem z_if_lt (hX : zC X l R G v0 m0 cc nL own ret) {a : Int} {off : Int} {tgt : Nat} (hd : decode cc pc = .ok (.ifCond .lt off, 3)) (ht : (pc : Int) + off = (tgt : Int)) (kt : zI a < zI 0 → zV X nL m tgt lv st) (kf : ¬ zI a < zI 0 → zV X nL m (pc + 3) lv st) : zV X nL m pc lv (.int (zI a) :: st) := by
  obtain ⟨p, l, e, R, s, mI, args, below, meth, cd, G, v0, m0⟩ := X
  obtain ⟨rfl, rfl, rfl, rfl, rfl, hx, hb, hml, hown, hts, hK, ⟨hok, hnw⟩, hr, hlk⟩ := hX
  rw [zI_0] at kt kf
  exact fun H locs ls h1 h2 h3 => lv_if_lt hx hb hd ht (fun q => kt (q) H locs ls h1 h2 h3) (fun q => kf (q) H locs ls h1 h2 h3)
theorem z_icmp_ge (hX : zC X l R G v0 m0 cc nL own ret) {a b : Int} {off : Int} {tgt : Nat} (hd : decode cc pc = .ok (.if_icmp .ge off, 3)) (ht : (pc : Int) + off = (tgt : Int)) (kt : ¬ zI a < zI b → zV X nL m tgt lv st) (kf : zI a < zI b → zV X nL m (pc + 3) lv st) : zV X nL m pc lv (.int (zI b) :: .int (zI a) :: st) := by
  obtain ⟨p, l, e, R, s, mI, args, below, meth, cd, G, v0, m0⟩ := X
  obtain ⟨rfl, rfl, rfl, rfl, rfl, hx, hb, hml, hown, hts, hK, ⟨hok, hnw⟩, hr, hlk⟩ := hX
  exact fun H locs ls h1 h2 h3 => lv_icmp_ge hx hb hd ht (fun q => kt (Int32.not_lt.mpr q) H locs ls h1 h2 h3) (fun q => kf (Int32.not_le.mp q) H locs ls h1 h2 h3)
theorem z_if_ge (hX : zC X l R G v0 m0 cc nL own ret) {a : Int} {off : Int} {tgt : Nat} (hd : decode cc pc = .ok (.ifCond .ge off, 3)) (ht : (pc : Int) + off = (tgt : Int)) (kt : ¬ zI a < zI 0 → zV X nL m tgt lv st) (kf : zI a < zI 0 → zV X nL m (pc + 3) lv st) : zV X nL m pc lv (.int (zI a) :: st) := by
  obtain ⟨p, l, e, R, s, mI, args, below, meth, cd, G, v0, m0⟩ := X
  obtain ⟨rfl, rfl, rfl, rfl, rfl, hx, hb, hml, hown, hts, hK, ⟨hok, hnw⟩, hr, hlk⟩ := hX
  rw [zI_0] at kt kf
  exact fun H locs ls h1 h2 h3 => lv_if_ge hx hb hd ht (fun q => kt (Int32.not_lt.mpr q) H locs ls h1 h2 h3) (fun q => kf (Int32.not_le.mp q) H locs ls h1 h2 h3)
theorem z_icmp_gt (hX : zC X l R G v0 m0 cc nL own ret) {a b : Int} {off : Int} {tgt : Nat} (hd : decode cc pc = .ok (.if_icmp .gt off, 3)) (ht : (pc : Int) + off = (tgt : Int)) (kt : zI b < zI a → zV X nL m tgt lv st) (kf : ¬ zI b < zI a → zV X nL m (pc + 3) lv st) : zV X nL m pc lv (.int (zI b) :: .int (zI a) :: st) := by
  obtain ⟨p, l, e, R, s, mI, args, below, meth, cd, G, v0, m0⟩ := X
  obtain ⟨rfl, rfl, rfl, rfl, rfl, hx, hb, hml, hown, hts, hK, ⟨hok, hnw⟩, hr, hlk⟩ := hX
  exact fun H locs ls h1 h2 h3 => lv_icmp_gt hx hb hd ht (fun q => kt (q) H locs ls h1 h2 h3) (fun q => kf (q) H locs ls h1 h2 h3)
theorem z_if_gt (hX : zC X l R G v0 m0 cc nL own ret) {a : Int} {off : Int} {tgt : Nat} (hd : decode cc pc = .ok (.ifCond .gt off, 3)) (ht : (pc : Int) + off = (tgt : Int)) (kt : zI 0 < zI a → zV X nL m tgt lv st) (kf : ¬ zI 0 < zI a → zV X nL m (pc + 3) lv st) : zV X nL m pc lv (.int (zI a) :: st) := by
  obtain ⟨p, l, e, R, s, mI, args, below, meth, cd, G, v0, m0⟩ := X
  obtain ⟨rfl, rfl, rfl, rfl, rfl, hx, hb, hml, hown, hts, hK, ⟨hok, hnw⟩, hr, hlk⟩ := hX
  rw [zI_0] at kt kf
  exact fun H locs ls h1 h2 h3 => lv_if_gt hx hb hd ht (fun q => kt (q) H locs ls h1 h2 h3) (fun q => kf (q) H locs ls h1 h2 h3)
theorem z_icmp_le (hX : zC X l R G v0 m0 cc nL own ret) {a b : Int} {off : Int} {tgt : Nat} (hd : decode cc pc = .ok (.if_icmp .le off, 3)) (ht : (pc : Int) + off = (tgt : Int)) (kt : ¬ zI b < zI a → zV X nL m tgt lv st) (kf : zI b < zI a → zV X nL m (pc + 3) lv st) : zV X nL m pc lv (.int (zI b) :: .int (zI a) :: st) := by
  obtain ⟨p, l, e, R, s, mI, args, below, meth, cd, G, v0, m0⟩ := X
  obtain ⟨rfl, rfl, rfl, rfl, rfl, hx, hb, hml, hown, hts, hK, ⟨hok, hnw⟩, hr, hlk⟩ := hX
  exact fun H locs ls h1 h2 h3 => lv_icmp_le hx hb hd ht (fun q => kt (Int32.not_lt.mpr q) H locs ls h1 h2 h3) (fun q => kf (Int32.not_le.mp q) H locs ls h1 h2 h3)
theorem z_if_le (hX : zC X l R G v0 m0 cc nL own ret) {a : Int} {off : Int} {tgt : Nat} (hd : decode cc pc = .ok (.ifCond .le off, 3)) (ht : (pc : Int) + off = (tgt : Int)) (kt : ¬ zI 0 < zI a → zV X nL m tgt lv st) (kf : zI 0 < zI a → zV X nL m (pc + 3) lv st) : zV X nL m pc lv (.int (zI a) :: st) := by
  obtain ⟨p, l, e, R, s, mI, args, below, meth, cd, G, v0, m0⟩ := X
  obtain ⟨rfl, rfl, rfl, rfl, rfl, hx, hb, hml, hown, hts, hK, ⟨hok, hnw⟩, hr, hlk⟩ := hX
  rw [zI_0] at kt kf
  exact fun H locs ls h1 h2 h3 => lv_if_le hx hb hd ht (fun q => kt (Int32.not_lt.mpr q) H locs ls h1 h2 h3) (fun q => kf (Int32.not_le.mp q) H locs ls h1 h2 h3)
theorem zl_lt (x y : Int64) : (lg_cmp x y < 0) ↔ x < y := by
  unfold lg_cmp
  simp only [gt_iff_lt, Int64.lt_iff_toInt_lt, ← Int64.toInt_inj]
  by_cases h : y.toInt < x.toInt
  · rw [if_pos h]; simp; omega
  · rw [if_neg h]
    by_cases h2 : x.toInt = y.toInt
    · rw [if_pos h2]; simp; omega
    · rw [if_neg h2]; simp; omega
theorem zl_gt (x y : Int64) : (0 < lg_cmp x y) ↔ y < x := by
  unfold lg_cmp
  simp only [gt_iff_lt, Int64.lt_iff_toInt_lt, ← Int64.toInt_inj]
  by_cases h : y.toInt < x.toInt
  · rw [if_pos h]; simp; omega
  · rw [if_neg h]
    by_cases h2 : x.toInt = y.toInt
    · rw [if_pos h2]; simp; omega
    · rw [if_neg h2]; simp; omega
theorem zl_eq (x y : Int64) : (lg_cmp x y = 0) ↔ x = y := by
  unfold lg_cmp
  simp only [gt_iff_lt, Int64.lt_iff_toInt_lt, ← Int64.toInt_inj]
  by_cases h : y.toInt < x.toInt
  · rw [if_pos h]; simp; omega
  · rw [if_neg h]
    by_cases h2 : x.toInt = y.toInt
    · rw [if_pos h2]; simp; omega
    · rw [if_neg h2]; simp; omega
theorem z_lcmp_eq (hX : zC X l R G v0 m0 cc nL own ret) {a b : Int} {off : Int} {tgt : Nat} (hd0 : decode cc pc = .ok (.lcmp, 1)) (hd : decode cc (pc + 1) = .ok (.ifCond .eq off, 3)) (ht : ((pc + 1 : Nat) : Int) + off = (tgt : Int)) (kt : zJ a = zJ b → zV X nL m tgt lv st) (kf : ¬ zJ a = zJ b → zV X nL m (pc + 4) lv st) : zV X nL m pc lv (.long (zJ b) :: .long (zJ a) :: st) := by
  obtain ⟨p, l, e, R, s, mI, args, below, meth, cd, G, v0, m0⟩ := X
  obtain ⟨rfl, rfl, rfl, rfl, rfl, hx, hb, hml, hown, hts, hK, ⟨hok, hnw⟩, hr, hlk⟩ := hX
  exact fun H locs ls h1 h2 h3 => W.lcmp hx hb hd0 (lv_if_eq hx hb hd ht (fun q => kt ((zl_eq _ _).mp q) H locs ls h1 h2 h3) (fun q => kf (fun h => q ((zl_eq _ _).mpr h)) H locs ls h1 h2 h3))
theorem z_lcmp_ne (hX : zC X l R G v0 m0 cc nL own ret) {a b : Int} {off : Int} {tgt : Nat} (hd0 : decode cc pc = .ok (.lcmp, 1)) (hd : decode cc (pc + 1) = .ok (.ifCond .ne off, 3)) (ht : ((pc + 1 : Nat) : Int) + off = (tgt : Int)) (kt : ¬ zJ a = zJ b → zV X nL m tgt lv st) (kf : zJ a = zJ b → zV X nL m (pc + 4) lv st) : zV X nL m pc lv (.long (zJ b) :: .long (zJ a) :: st) := by
  obtain ⟨p, l, e, R, s, mI, args, below, meth, cd, G, v0, m0⟩ := X
  obtain ⟨rfl, rfl, rfl, rfl, rfl, hx, hb, hml, hown, hts, hK, ⟨hok, hnw⟩, hr, hlk⟩ := hX
  exact fun H locs ls h1 h2 h3 => W.lcmp hx hb hd0 (lv_if_ne hx hb hd ht (fun q => kt (fun h => q ((zl_eq _ _).mpr h)) H locs ls h1 h2 h3) (fun q => kf ((zl_eq _ _).mp q) H locs ls h1 h2 h3))
theorem z_lcmp_lt (hX : zC X l R G v0 m0 cc nL own ret) {a b : Int} {off : Int} {tgt : Nat} (hd0 : decode cc pc = .ok (.lcmp, 1)) (hd : decode cc (pc + 1) = .ok (.ifCond .lt off, 3)) (ht : ((pc + 1 : Nat) : Int) + off = (tgt : Int)) (kt : zJ a < zJ b → zV X nL m tgt lv st) (kf : ¬ zJ a < zJ b → zV X nL m (pc + 4) lv st) : zV X nL m pc lv (.long (zJ b) :: .long (zJ a) :: st) := by
  obtain ⟨p, l, e, R, s, mI, args, below, meth, cd, G, v0, m0⟩ := X
  obtain ⟨rfl, rfl, rfl, rfl, rfl, hx, hb, hml, hown, hts, hK, ⟨hok, hnw⟩, hr, hlk⟩ := hX
  exact fun H locs ls h1 h2 h3 => W.lcmp hx hb hd0 (lv_if_lt hx hb hd ht (fun q => kt ((zl_lt _ _).mp q) H locs ls h1 h2 h3) (fun q => kf (fun h => q ((zl_lt _ _).mpr h)) H locs ls h1 h2 h3))
theorem z_lcmp_ge (hX : zC X l R G v0 m0 cc nL own ret) {a b : Int} {off : Int} {tgt : Nat} (hd0 : decode cc pc = .ok (.lcmp, 1)) (hd : decode cc (pc + 1) = .ok (.ifCond .ge off, 3)) (ht : ((pc + 1 : Nat) : Int) + off = (tgt : Int)) (kt : ¬ zJ a < zJ b → zV X nL m tgt lv st) (kf : zJ a < zJ b → zV X nL m (pc + 4) lv st) : zV X nL m pc lv (.long (zJ b) :: .long (zJ a) :: st) := by
  obtain ⟨p, l, e, R, s, mI, args, below, meth, cd, G, v0, m0⟩ := X
  obtain ⟨rfl, rfl, rfl, rfl, rfl, hx, hb, hml, hown, hts, hK, ⟨hok, hnw⟩, hr, hlk⟩ := hX
  exact fun H locs ls h1 h2 h3 => W.lcmp hx hb hd0 (lv_if_ge hx hb hd ht (fun q => kt (fun h => Int32.not_lt.mpr q ((zl_lt _ _).mpr h)) H locs ls h1 h2 h3) (fun q => kf ((zl_lt _ _).mp (Int32.not_le.mp q)) H locs ls h1 h2 h3))
theorem z_lcmp_gt (hX : zC X l R G v0 m0 cc nL own ret) {a b : Int} {off : Int} {tgt : Nat} (hd0 : decode cc pc = .ok (.lcmp, 1)) (hd : decode cc (pc + 1) = .ok (.ifCond .gt off, 3)) (ht : ((pc + 1 : Nat) : Int) + off = (tgt : Int)) (kt : zJ b < zJ a → zV X nL m tgt lv st) (kf : ¬ zJ b < zJ a → zV X nL m (pc + 4) lv st) : zV X nL m pc lv (.long (zJ b) :: .long (zJ a) :: st) := by
  obtain ⟨p, l, e, R, s, mI, args, below, meth, cd, G, v0, m0⟩ := X
  obtain ⟨rfl, rfl, rfl, rfl, rfl, hx, hb, hml, hown, hts, hK, ⟨hok, hnw⟩, hr, hlk⟩ := hX
  exact fun H locs ls h1 h2 h3 => W.lcmp hx hb hd0 (lv_if_gt hx hb hd ht (fun q => kt ((zl_gt _ _).mp q) H locs ls h1 h2 h3) (fun q => kf (fun h => q ((zl_gt _ _).mpr h)) H locs ls h1 h2 h3))
theorem z_lcmp_le (hX : zC X l R G v0 m0 cc nL own ret) {a b : Int} {off : Int} {tgt : Nat} (hd0 : decode cc pc = .ok (.lcmp, 1)) (hd : decode cc (pc + 1) = .ok (.ifCond .le off, 3)) (ht : ((pc + 1 : Nat) : Int) + off = (tgt : Int)) (kt : ¬ zJ b < zJ a → zV X nL m tgt lv st) (kf : zJ b < zJ a → zV X nL m (pc + 4) lv st) : zV X nL m pc lv (.long (zJ b) :: .long (zJ a) :: st) := by
  obtain ⟨p, l, e, R, s, mI, args, below, meth, cd, G, v0, m0⟩ := X
  obtain ⟨rfl, rfl, rfl, rfl, rfl, hx, hb, hml, hown, hts, hK, ⟨hok, hnw⟩, hr, hlk⟩ := hX
  exact fun H locs ls h1 h2 h3 => W.lcmp hx hb hd0 (lv_if_le hx hb hd ht (fun q => kt (fun h => Int32.not_lt.mpr q ((zl_gt _ _).mpr h)) H locs ls h1 h2 h3) (fun q => kf ((zl_gt _ _).mp (Int32.not_le.mp q)) H locs ls h1 h2 h3))
abbrev zdg (a b : Int) : Prop := 0 ≤ a ∧ a < 2147483648 ∧ 0 < b ∧ b < 2147483648
abbrev zlg (a b : Int) : Prop := 0 ≤ a ∧ a < 9223372036854775808 ∧ 0 < b ∧ b < 9223372036854775808
theorem zI_div {a b : Int} (h : zdg a b) : zI a / zI b = zI (a / b) := by
  obtain ⟨h1, h2, h3, h4⟩ := h
  have e := @Int32.ofInt_tdiv a b (by show (-2147483648 : Int) ≤ a; omega) (by show a ≤ (2147483647 : Int); omega) (by show (-2147483648 : Int) ≤ b; omega) (by show b ≤ (2147483647 : Int); omega)
  rw [Int.tdiv_eq_ediv_of_nonneg h1] at e
  exact e.symm
theorem zI_rem {a b : Int} (h : zdg a b) : zI a - zI a / zI b * zI b = zI (a % b) := by
  rw [zI_div h, zI_mul, zI_sub, Int.emod_def, Int.mul_comm]
theorem zJ_div {a b : Int} (h : zlg a b) : zJ a / zJ b = zJ (a / b) := by
  obtain ⟨h1, h2, h3, h4⟩ := h
  have e := @Int64.ofInt_tdiv a b (by show (-9223372036854775808 : Int) ≤ a; omega) (by show a ≤ (9223372036854775807 : Int); omega) (by show (-9223372036854775808 : Int) ≤ b; omega) (by show b ≤ (9223372036854775807 : Int); omega)
  rw [Int.tdiv_eq_ediv_of_nonneg h1] at e
  exact e.symm
theorem zJ_rem {a b : Int} (h : zlg a b) : zJ a - zJ a / zJ b * zJ b = zJ (a % b) := by
  rw [zJ_div h, zJ_mul, zJ_sub, Int.emod_def, Int.mul_comm]
theorem zI_ne0 {b : Int} (h : 0 < b) (h2 : b < 2147483648) : ¬ zI b = 0 := by
  rw [← zI_0, zI_eq ⟨by omega, h2⟩ ⟨by omega, by omega⟩]; omega
theorem zJ_ne0 {b : Int} (h : 0 < b) (h2 : b < 9223372036854775808) : ¬ zJ b = 0 := by
  intro e
  have e2 := congrArg Int64.toInt e
  rw [zJ_toInt (by omega) h2] at e2
  simp at e2; omega
def zw (a : Int) : Int := (zI a).toInt
def zch (a : Int) : Int := ((zI a).toUInt32 % 65536).toInt32.toInt
def zsh (a : Int) : Int := ((zI a).toInt16.toInt32).toInt
def zand (a b : Int) : Int := (zJ a &&& zJ b).toInt
theorem z_idiv (hX : zC X l R G v0 m0 cc nL own ret) {a b : Int} (hg : zdg a b) (hd : decode cc pc = .ok (.idiv, 1)) (k : zV X nL m (pc + 1) lv (.int (zI (a / b)) :: st)) : zV X nL m pc lv (.int (zI b) :: .int (zI a) :: st) := by
  obtain ⟨p, l, e, R, s, mI, args, below, meth, cd, G, v0, m0⟩ := X
  obtain ⟨rfl, rfl, rfl, rfl, rfl, hx, hb, hml, hown, hts, hK, ⟨hok, hnw⟩, hr, hlk⟩ := hX
  exact fun H locs ls h1 h2 h3 => lv_idiv hx hb hd (zI_ne0 hg.2.2.1 hg.2.2.2) (by rw [zI_div hg]; exact k H locs ls h1 h2 h3)
theorem z_irem (hX : zC X l R G v0 m0 cc nL own ret) {a b : Int} (hg : zdg a b) (hd : decode cc pc = .ok (.irem, 1)) (k : zV X nL m (pc + 1) lv (.int (zI (a % b)) :: st)) : zV X nL m pc lv (.int (zI b) :: .int (zI a) :: st) := by
  obtain ⟨p, l, e, R, s, mI, args, below, meth, cd, G, v0, m0⟩ := X
  obtain ⟨rfl, rfl, rfl, rfl, rfl, hx, hb, hml, hown, hts, hK, ⟨hok, hnw⟩, hr, hlk⟩ := hX
  exact fun H locs ls h1 h2 h3 => lv_irem hx hb hd (zI_ne0 hg.2.2.1 hg.2.2.2) (by rw [zI_rem hg]; exact k H locs ls h1 h2 h3)
theorem z_ldiv (hX : zC X l R G v0 m0 cc nL own ret) {a b : Int} (hg : zlg a b) (hd : decode cc pc = .ok (.ldiv, 1)) (k : zV X nL m (pc + 1) lv (.long (zJ (a / b)) :: st)) : zV X nL m pc lv (.long (zJ b) :: .long (zJ a) :: st) := by
  obtain ⟨p, l, e, R, s, mI, args, below, meth, cd, G, v0, m0⟩ := X
  obtain ⟨rfl, rfl, rfl, rfl, rfl, hx, hb, hml, hown, hts, hK, ⟨hok, hnw⟩, hr, hlk⟩ := hX
  exact fun H locs ls h1 h2 h3 => lv_ldiv hx hb hd (zJ_ne0 hg.2.2.1 hg.2.2.2) (by rw [zJ_div hg]; exact k H locs ls h1 h2 h3)
theorem z_lrem (hX : zC X l R G v0 m0 cc nL own ret) {a b : Int} (hg : zlg a b) (hd : decode cc pc = .ok (.lrem, 1)) (k : zV X nL m (pc + 1) lv (.long (zJ (a % b)) :: st)) : zV X nL m pc lv (.long (zJ b) :: .long (zJ a) :: st) := by
  obtain ⟨p, l, e, R, s, mI, args, below, meth, cd, G, v0, m0⟩ := X
  obtain ⟨rfl, rfl, rfl, rfl, rfl, hx, hb, hml, hown, hts, hK, ⟨hok, hnw⟩, hr, hlk⟩ := hX
  exact fun H locs ls h1 h2 h3 => lv_lrem hx hb hd (zJ_ne0 hg.2.2.1 hg.2.2.2) (by rw [zJ_rem hg]; exact k H locs ls h1 h2 h3)
theorem z_ladd (hX : zC X l R G v0 m0 cc nL own ret) {a b : Int} (hd : decode cc pc = .ok (.ladd, 1)) (k : zV X nL m (pc + 1) lv (.long (zJ (a + b)) :: st)) : zV X nL m pc lv (.long (zJ b) :: .long (zJ a) :: st) := by
  obtain ⟨p, l, e, R, s, mI, args, below, meth, cd, G, v0, m0⟩ := X
  obtain ⟨rfl, rfl, rfl, rfl, rfl, hx, hb, hml, hown, hts, hK, ⟨hok, hnw⟩, hr, hlk⟩ := hX
  exact fun H locs ls h1 h2 h3 => lv_ladd hx hb hd (by rw [zJ_add]; exact k H locs ls h1 h2 h3)
theorem z_lmul (hX : zC X l R G v0 m0 cc nL own ret) {a b : Int} (hd : decode cc pc = .ok (.lmul, 1)) (k : zV X nL m (pc + 1) lv (.long (zJ (a * b)) :: st)) : zV X nL m pc lv (.long (zJ b) :: .long (zJ a) :: st) := by
  obtain ⟨p, l, e, R, s, mI, args, below, meth, cd, G, v0, m0⟩ := X
  obtain ⟨rfl, rfl, rfl, rfl, rfl, hx, hb, hml, hown, hts, hK, ⟨hok, hnw⟩, hr, hlk⟩ := hX
  exact fun H locs ls h1 h2 h3 => lv_lmul hx hb hd (by rw [zJ_mul]; exact k H locs ls h1 h2 h3)
theorem z_land (hX : zC X l R G v0 m0 cc nL own ret) {a b : Int} (hd : decode cc pc = .ok (.land, 1)) (k : zV X nL m (pc + 1) lv (.long (zJ (zand a b)) :: st)) : zV X nL m pc lv (.long (zJ b) :: .long (zJ a) :: st) := by
  obtain ⟨p, l, e, R, s, mI, args, below, meth, cd, G, v0, m0⟩ := X
  obtain ⟨rfl, rfl, rfl, rfl, rfl, hx, hb, hml, hown, hts, hK, ⟨hok, hnw⟩, hr, hlk⟩ := hX
  exact fun H locs ls h1 h2 h3 => lv_land hx hb hd (by have q := k H locs ls h1 h2 h3; rw [zand, zJ_self] at q; exact q)
theorem zI_toJ {a : Int} (h : zR a) : (zI a).toInt64 = zJ a := Int32.toInt64_ofInt (by show (-2147483648 : Int) ≤ a; exact h.1) (by show a ≤ (2147483647 : Int); have := h.2; omega)
theorem zJ_toI (a : Int) : (zJ a).toInt32 = zI a := Int64.toInt32_ofInt
theorem z_i2l (hX : zC X l R G v0 m0 cc nL own ret) {a : Int} (hg : zR a) (hd : decode cc pc = .ok (.i2l, 1)) (k : zV X nL m (pc + 1) lv (.long (zJ a) :: st)) : zV X nL m pc lv (.int (zI a) :: st) := by
  obtain ⟨p, l, e, R, s, mI, args, below, meth, cd, G, v0, m0⟩ := X
  obtain ⟨rfl, rfl, rfl, rfl, rfl, hx, hb, hml, hown, hts, hK, ⟨hok, hnw⟩, hr, hlk⟩ := hX
  exact fun H locs ls h1 h2 h3 => lv_i2l hx hb hd (zI_toJ hg) (k H locs ls h1 h2 h3)
theorem z_l2i (hX : zC X l R G v0 m0 cc nL own ret) {a : Int} (hd : decode cc pc = .ok (.l2i, 1)) (k : zV X nL m (pc + 1) lv (.int (zI (zw a)) :: st)) : zV X nL m pc lv (.long (zJ a) :: st) := by
  obtain ⟨p, l, e, R, s, mI, args, below, meth, cd, G, v0, m0⟩ := X
  obtain ⟨rfl, rfl, rfl, rfl, rfl, hx, hb, hml, hown, hts, hK, ⟨hok, hnw⟩, hr, hlk⟩ := hX
  exact fun H locs ls h1 h2 h3 => lv_l2i hx hb hd (by rw [zJ_toI, zw, zI_self]) (k H locs ls h1 h2 h3)
theorem z_i2c (hX : zC X l R G v0 m0 cc nL own ret) {a : Int} (hd : decode cc pc = .ok (.i2c, 1)) (k : zV X nL m (pc + 1) lv (.int (zI (zch a)) :: st)) : zV X nL m pc lv (.int (zI a) :: st) := by
  obtain ⟨p, l, e, R, s, mI, args, below, meth, cd, G, v0, m0⟩ := X
  obtain ⟨rfl, rfl, rfl, rfl, rfl, hx, hb, hml, hown, hts, hK, ⟨hok, hnw⟩, hr, hlk⟩ := hX
  exact fun H locs ls h1 h2 h3 => lv_i2c hx hb hd (by rw [zch, zI_self]) (k H locs ls h1 h2 h3)
theorem z_i2s (hX : zC X l R G v0 m0 cc nL own ret) {a : Int} (hd : decode cc pc = .ok (.i2s, 1)) (k : zV X nL m (pc + 1) lv (.int (zI (zsh a)) :: st)) : zV X nL m pc lv (.int (zI a) :: st) := by
  obtain ⟨p, l, e, R, s, mI, args, below, meth, cd, G, v0, m0⟩ := X
  obtain ⟨rfl, rfl, rfl, rfl, rfl, hx, hb, hml, hown, hts, hK, ⟨hok, hnw⟩, hr, hlk⟩ := hX
  exact fun H locs ls h1 h2 h3 => lv_i2s hx hb hd (by rw [zsh, zI_self]) (k H locs ls h1 h2 h3)
theorem z_dup (hX : zC X l R G v0 m0 cc nL own ret) {v : Value} (hd : decode cc pc = .ok (.dup, 1)) (hv : v.category = 1) (k : zV X nL m (pc + 1) lv (v :: v :: st)) : zV X nL m pc lv (v :: st) := by
  obtain ⟨p, l, e, R, s, mI, args, below, meth, cd, G, v0, m0⟩ := X
  obtain ⟨rfl, rfl, rfl, rfl, rfl, hx, hb, hml, hown, hts, hK, ⟨hok, hnw⟩, hr, hlk⟩ := hX
  exact fun H locs ls h1 h2 h3 => lv_dup hx hb hd hv (k H locs ls h1 h2 h3)
theorem z_pop (hX : zC X l R G v0 m0 cc nL own ret) {v : Value} (hd : decode cc pc = .ok (.pop, 1)) (hv : v.category = 1) (k : zV X nL m (pc + 1) lv st) : zV X nL m pc lv (v :: st) := by
  obtain ⟨p, l, e, R, s, mI, args, below, meth, cd, G, v0, m0⟩ := X
  obtain ⟨rfl, rfl, rfl, rfl, rfl, hx, hb, hml, hown, hts, hK, ⟨hok, hnw⟩, hr, hlk⟩ := hX
  exact fun H locs ls h1 h2 h3 => lv_pop hx hb hd hv (k H locs ls h1 h2 h3)
theorem z_pop2 (hX : zC X l R G v0 m0 cc nL own ret) {v : Value} (hd : decode cc pc = .ok (.pop2, 1)) (hv : v.category = 2) (k : zV X nL m (pc + 1) lv st) : zV X nL m pc lv (v :: st) := by
  obtain ⟨p, l, e, R, s, mI, args, below, meth, cd, G, v0, m0⟩ := X
  obtain ⟨rfl, rfl, rfl, rfl, rfl, hx, hb, hml, hown, hts, hK, ⟨hok, hnw⟩, hr, hlk⟩ := hX
  exact fun H locs ls h1 h2 h3 => lv_pop2_2 hx hb hd hv (k H locs ls h1 h2 h3)
/-- a field by its pool entry: class ci of vwCl, slot k -/
def zFl (own : String) (ix ci k : Nat) : Prop := ∃ (C : String) (T : u_T) (N : Nat) (ty : Nat → FieldType), vwCl[ci]? = some (C, T, N) ∧ (∀ w ∈ u_ws C T N, w ∈ zW) ∧ k < N ∧ Cond.fieldLink own ix C (T k).2.1 (T k).2.2.1 ∈ zW ∧ (T k).1 = C ∧ (∀ k, k < N → parseFieldDescriptor (T k).2.2.1 = some (ty k)) ∧ ∀ a, a < N → ∀ b, b < N → a ≠ b → (T a).2.1 ≠ (T b).2.1
/-- .. an int that may be written -/
def zFi (ci k : Nat) : Prop := ∃ (C : String) (T : u_T) (N : Nat), vwCl[ci]? = some (C, T, N) ∧ (T k).2.2.2 = false ∧ parseFieldDescriptor (T k).2.2.1 = some .int
theorem z_get (hX : zC X l R G v0 m0 cc nL own ret) {ix ci j c : Nat} {fs : List Value} {v : Value} (hcl : G.2.1 = vwCl) (hf : zFl own ix ci j) (hc : c < G.2.2.2.1) (he : G.2.2.2.2.1 c (m c) = .inr (ci, fs)) (hv : fs[j]? = some v) (hd : decode cc pc = .ok (.getfield ix, 3)) (k : zV X nL m (pc + 3) lv (v :: st)) : zV X nL m pc lv (.ref (G.2.2.2.2.2 c) :: st) := by
  obtain ⟨p, l, e, R, s, mI, args, below, meth, cd, G, v0, m0⟩ := X
  obtain ⟨rfl, rfl, rfl, rfl, rfl, hx, hb, hml, hown, hts, hK, ⟨hok, hnw⟩, hr, hlk⟩ := hX
  obtain ⟨C, T, N, ty, f1, f2, f3, f4, f5, f6, f7⟩ := hf
  intro H locs ls h1 h2 h3
  refine va_get (T := T) hx hb hts f2 hown hK h1 c (by rw [zws_get hc, he]) (by rw [hcl]; exact f1) j f3 (hts _ f4) (fun _ h => by rw [f5] at h; exact h) hv hd (k H locs ls h1 h2 h3)
theorem z_put (hX : zC X l R G v0 m0 cc nL own ret) {ix ci j c : Nat} {a : Int} {fs : List Value} (hcl : G.2.1 = vwCl) (hf : zFl own ix ci j) (hi : zFi ci j) (hc : c < G.2.2.2.1) (he : G.2.2.2.2.1 c (m c) = .inr (ci, fs)) (hl : j < fs.length) (he2 : G.2.2.2.2.1 c (zuf (m c) j a) = .inr (ci, fs.set j (.int (zI a)))) {m1 : zM} (hm1 : m1 = zup m c j a) (hd : decode cc pc = .ok (.putfield ix, 3)) (k : zV X nL m1 (pc + 3) lv st) : zV X nL m pc lv (.int (zI a) :: .ref (G.2.2.2.2.2 c) :: st) := by
  obtain ⟨p, l, e, R, s, mI, args, below, meth, cd, G, v0, m0⟩ := X
  obtain ⟨rfl, rfl, rfl, rfl, rfl, hx, hb, hml, hown, hts, hK, ⟨hok, hnw⟩, hr, hlk⟩ := hX
  obtain ⟨C, T, N, ty, f1, f2, f3, f4, f5, f6, f7⟩ := hf
  obtain ⟨C', T', N', g1, g2, g3⟩ := hi
  subst hm1
  obtain ⟨rfl, rfl, rfl⟩ : C = C' ∧ T = T' ∧ N = N' := by
    have q := Option.some.inj (f1.symm.trans g1)
    cases q
    exact ⟨rfl, rfl, rfl⟩
  intro H locs ls h1 h2 h3
  refine va_put (T := T) (ty := .int) hx hb hts f2 ty f6 f7 hown hK h1 (zws_D hok) h2 c (by rw [zws_get hc, he]) (by rw [hcl]; exact f1) j f3 (hts _ f4) (fun _ h => by rw [f5] at h; exact h) g2 g3 rfl rfl hl hd (fun H1 locs1 hP hD hS => ?_)
  rw [← he2, zws_set hc] at hP
  exact k H1 locs1 ls hP hS h3
def zInts (G : zG) (c : Nat) (n : Nat) : Prop := c < G.2.2.2.1 ∧ n < 2147483648 ∧ ∃ cA : ClassId, G.2.2.1[0]? = some (cA, .int) ∧ ∀ f : Int → Int, G.2.2.2.2.1 c f = .inl (cA, n, .inl (fun k => zI (f (k : Int))))
def zLongs (G : zG) (c : Nat) (n : Nat) : Prop := c < G.2.2.2.1 ∧ n < 2147483648 ∧ ∃ cA : ClassId, G.2.2.1[1]? = some (cA, .long) ∧ ∀ f : Int → Int, G.2.2.2.2.1 c f = .inl (cA, n, .inr (.inl (fun k => zJ (f (k : Int)))))
def zRefs (G : zG) (c : Nat) (t : Nat) (n : Nat) (g : Nat → Nat) : Prop := c < G.2.2.2.1 ∧ n < 2147483648 ∧ ∃ (cA : ClassId) (C : String) (h : Nat → Option Nat), G.2.2.1[t]? = some (cA, .object C) ∧ (∀ f : Int → Int, G.2.2.2.2.1 c f = .inl (cA, n, .inr (.inr (.inr (.inr h))))) ∧ ∀ k, k < n → h k = some (G.2.2.2.2.2 (g k))
theorem zuf_nat (f : Int → Int) {i v : Int} (h : 0 ≤ i) : (fun k : Nat => zI (zuf f i v (k : Int))) = upd (fun k : Nat => zI (f (k : Int))) i.toNat (zI v) := by
  funext k
  by_cases hk : (k : Int) = i
  · have : k = i.toNat := by omega
    simp only [zuf, upd, if_pos hk, if_pos this]
  · have : ¬ k = i.toNat := by omega
    simp only [zuf, upd, if_neg hk, if_neg this]
theorem zufL_nat (f : Int → Int) {i v : Int} (h : 0 ≤ i) : (fun k : Nat => zJ (zuf f i v (k : Int))) = vp_updL (fun k : Nat => zJ (f (k : Int))) i.toNat (zJ v) := by
  funext k
  by_cases hk : (k : Int) = i
  · have : k = i.toNat := by omega
    simp only [zuf, vp_updL, if_pos hk, if_pos this]
  · have : ¬ k = i.toNat := by omega
    simp only [zuf, vp_updL, if_neg hk, if_neg this]
theorem z_iald (hX : zC X l R G v0 m0 cc nL own ret) {c n : Nat} {i x : Int} (ha : zInts G c n) (hi : 0 ≤ i ∧ i < (n : Int)) (hx5 : x = m c i) (hd : decode cc pc = .ok (.iaload, 1)) (k : zV X nL m (pc + 1) lv (.int (zI x) :: st)) : zV X nL m pc lv (.int (zI i) :: .ref (G.2.2.2.2.2 c) :: st) := by
  obtain ⟨p, l, e, R, s, mI, args, below, meth, cd, G, v0, m0⟩ := X
  obtain ⟨rfl, rfl, rfl, rfl, rfl, hx, hb, hml, hown, hts, hK, ⟨hok, hnw⟩, hr, hlk⟩ := hX
  obtain ⟨hc, hn, cA, ht, he⟩ := ha
  subst hx5
  intro H locs ls h1 h2 h3
  refine va_iald hx hb hK h1 c 0 (by rw [zws_get hc, he]) ht (zI_in hn hi) hd ?_
  rw [zI_nat hi.1 (by omega), Int.toNat_of_nonneg hi.1]
  exact k H locs ls h1 h2 h3
theorem z_lald (hX : zC X l R G v0 m0 cc nL own ret) {c n : Nat} {i x : Int} (ha : zLongs G c n) (hi : 0 ≤ i ∧ i < (n : Int)) (hx5 : x = m c i) (hd : decode cc pc = .ok (.laload, 1)) (k : zV X nL m (pc + 1) lv (.long (zJ x) :: st)) : zV X nL m pc lv (.int (zI i) :: .ref (G.2.2.2.2.2 c) :: st) := by
  obtain ⟨p, l, e, R, s, mI, args, below, meth, cd, G, v0, m0⟩ := X
  obtain ⟨rfl, rfl, rfl, rfl, rfl, hx, hb, hml, hown, hts, hK, ⟨hok, hnw⟩, hr, hlk⟩ := hX
  obtain ⟨hc, hn, cA, ht, he⟩ := ha
  subst hx5
  intro H locs ls h1 h2 h3
  refine va_lald hx hb hK h1 c 1 (by rw [zws_get hc, he]) ht (zI_in hn hi) hd ?_
  rw [zI_nat hi.1 (by omega), Int.toNat_of_nonneg hi.1]
  exact k H locs ls h1 h2 h3
theorem z_aald (hX : zC X l R G v0 m0 cc nL own ret) {c n t : Nat} {g : Nat → Nat} {i : Int} (ha : zRefs G c t n g) (hi : 0 ≤ i ∧ i < (n : Int)) (hd : decode cc pc = .ok (.aaload, 1)) (k : zV X nL m (pc + 1) lv (.ref (G.2.2.2.2.2 (g i.toNat)) :: st)) : zV X nL m pc lv (.int (zI i) :: .ref (G.2.2.2.2.2 c) :: st) := by
  obtain ⟨p, l, e, R, s, mI, args, below, meth, cd, G, v0, m0⟩ := X
  obtain ⟨rfl, rfl, rfl, rfl, rfl, hx, hb, hml, hown, hts, hK, ⟨hok, hnw⟩, hr, hlk⟩ := hX
  obtain ⟨hc, hn, cA, C, hh, ht, he, hg⟩ := ha
  intro H locs ls h1 h2 h3
  refine va_aldq hx hb hK h1 c t (by rw [zws_get hc, he]) ht (zI_in hn hi) hd ?_
  rw [zI_nat hi.1 (by omega), hg _ (by omega)]
  exact k H locs ls h1 h2 h3
theorem z_iast (hX : zC X l R G v0 m0 cc nL own ret) {c n : Nat} {i a : Int} {m1 : zM} (ha : zInts G c n) (hi : 0 ≤ i ∧ i < (n : Int)) (hm1 : m1 = zup m c i a) (hd : decode cc pc = .ok (.iastore, 1)) (k : zV X nL m1 (pc + 1) lv st) : zV X nL m pc lv (.int (zI a) :: .int (zI i) :: .ref (G.2.2.2.2.2 c) :: st) := by
  obtain ⟨p, l, e, R, s, mI, args, below, meth, cd, G, v0, m0⟩ := X
  obtain ⟨rfl, rfl, rfl, rfl, rfl, hx, hb, hml, hown, hts, hK, ⟨hok, hnw⟩, hr, hlk⟩ := hX
  obtain ⟨hc, hn, cA, ht, he⟩ := ha
  subst hm1
  intro H locs ls h1 h2 h3
  refine va_iast hx hb hK h1 (zws_D hok) h2 c 0 (by rw [zws_get hc, he]) ht (zI_in hn hi) hd (fun H1 locs1 hP hD hS => ?_)
  rw [zI_nat hi.1 (by omega), ← zuf_nat (m c) hi.1, ← he, zws_set hc] at hP
  exact k H1 locs1 ls hP hS h3
theorem z_last (hX : zC X l R G v0 m0 cc nL own ret) {c n : Nat} {i a : Int} {m1 : zM} (ha : zLongs G c n) (hi : 0 ≤ i ∧ i < (n : Int)) (hm1 : m1 = zup m c i a) (hd : decode cc pc = .ok (.lastore, 1)) (k : zV X nL m1 (pc + 1) lv st) : zV X nL m pc lv (.long (zJ a) :: .int (zI i) :: .ref (G.2.2.2.2.2 c) :: st) := by
  obtain ⟨p, l, e, R, s, mI, args, below, meth, cd, G, v0, m0⟩ := X
  obtain ⟨rfl, rfl, rfl, rfl, rfl, hx, hb, hml, hown, hts, hK, ⟨hok, hnw⟩, hr, hlk⟩ := hX
  obtain ⟨hc, hn, cA, ht, he⟩ := ha
  subst hm1
  intro H locs ls h1 h2 h3
  refine va_last hx hb hK h1 (zws_D hok) h2 c 1 (by rw [zws_get hc, he]) ht (zI_in hn hi) hd (fun H1 locs1 hP hD hS => ?_)
  rw [zI_nat hi.1 (by omega), ← zufL_nat (m c) hi.1, ← he, zws_set hc] at hP
  exact k H1 locs1 ls hP hS h3
theorem z_alen (hX : zC X l R G v0 m0 cc nL own ret) {c n : Nat} (ha : zInts G c n) (hd : decode cc pc = .ok (.arraylength, 1)) (k : zV X nL m (pc + 1) lv (.int (zI (n : Int)) :: st)) : zV X nL m pc lv (.ref (G.2.2.2.2.2 c) :: st) := by
  obtain ⟨p, l, e, R, s, mI, args, below, meth, cd, G, v0, m0⟩ := X
  obtain ⟨rfl, rfl, rfl, rfl, rfl, hx, hb, hml, hown, hts, hK, ⟨hok, hnw⟩, hr, hlk⟩ := hX
  obtain ⟨hc, hn, cA, ht, he⟩ := ha
  intro H locs ls h1 h2 h3
  exact va_alen hx hb hK h1 c 0 (by rw [zws_get hc, he]) ht (v := zI (n : Int)) (by rw [zI, Int32.ofInt_eq_ofNat]) hd (k H locs ls h1 h2 h3)
theorem z_alenL (hX : zC X l R G v0 m0 cc nL own ret) {c n : Nat} (ha : zLongs G c n) (hd : decode cc pc = .ok (.arraylength, 1)) (k : zV X nL m (pc + 1) lv (.int (zI (n : Int)) :: st)) : zV X nL m pc lv (.ref (G.2.2.2.2.2 c) :: st) := by
  obtain ⟨p, l, e, R, s, mI, args, below, meth, cd, G, v0, m0⟩ := X
  obtain ⟨rfl, rfl, rfl, rfl, rfl, hx, hb, hml, hown, hts, hK, ⟨hok, hnw⟩, hr, hlk⟩ := hX
  obtain ⟨hc, hn, cA, ht, he⟩ := ha
  intro H locs ls h1 h2 h3
  exact va_alen hx hb hK h1 c 1 (by rw [zws_get hc, he]) ht (v := zI (n : Int)) (by rw [zI, Int32.ofInt_eq_ofNat]) hd (k H locs ls h1 h2 h3)
theorem z_iret (hX : zC X l R G v0 m0 cc nL own ret) {r0 a : Int} (h0 : v0 = some (.int (zI r0))) (hr0 : ret = some .int) (ha : a = r0) (hm : m = m0) (hd : decode cc pc = .ok (.ireturn, 1)) : zV X nL m pc lv [.int (zI a)] := by
  obtain ⟨p, l, e, R, s, mI, args, below, meth, cd, G, v0, m0⟩ := X
  obtain ⟨rfl, rfl, rfl, rfl, rfl, hx, hb, hml, hown, hts, hK, ⟨hok, hnw⟩, hr, hlk⟩ := hX
  subst h0; subst ha; subst hm
  intro H locs ls h1 h2 h3
  exact W.iret hx hb (hr.trans hr0) (fun t ht hW => ⟨rfl, by rw [ht]; exact h1, h2.F ht⟩) h2.2.2 hd hlk
theorem z_zret (hX : zC X l R G v0 m0 cc nL own ret) {r0 a : Int} (h0 : v0 = some (.int (zI r0))) (hr0 : ret = some .boolean) (hz : a = 0 ∨ a = 1) (ha : a = r0) (hm : m = m0) (hd : decode cc pc = .ok (.ireturn, 1)) : zV X nL m pc lv [.int (zI a)] := by
  obtain ⟨p, l, e, R, s, mI, args, below, meth, cd, G, v0, m0⟩ := X
  obtain ⟨rfl, rfl, rfl, rfl, rfl, hx, hb, hml, hown, hts, hK, ⟨hok, hnw⟩, hr, hlk⟩ := hX
  subst h0; subst ha; subst hm
  intro H locs ls h1 h2 h3
  exact W.zret (ty := .boolean) hx hb (hr.trans hr0) (by rcases hz with rfl | rfl <;> decide +kernel) (fun t ht hW => ⟨rfl, by rw [ht]; exact h1, h2.F ht⟩) h2.2.2 hd hlk
theorem z_lret (hX : zC X l R G v0 m0 cc nL own ret) {r0 a : Int} (h0 : v0 = some (.long (zJ r0))) (hr0 : ret = some .long) (ha : a = r0) (hm : m = m0) (hd : decode cc pc = .ok (.lreturn, 1)) : zV X nL m pc lv [.long (zJ a)] := by
  obtain ⟨p, l, e, R, s, mI, args, below, meth, cd, G, v0, m0⟩ := X
  obtain ⟨rfl, rfl, rfl, rfl, rfl, hx, hb, hml, hown, hts, hK, ⟨hok, hnw⟩, hr, hlk⟩ := hX
  subst h0; subst ha; subst hm
  intro H locs ls h1 h2 h3
  exact W.lret hx hb (hr.trans hr0) (fun t ht hW => ⟨rfl, by rw [ht]; exact h1, h2.F ht⟩) h2.2.2 hd hlk
theorem z_vret (hX : zC X l R G v0 m0 cc nL own ret) (h0 : v0 = none) (hr0 : ret = none) (hm : m = m0) (hd : decode cc pc = .ok (.return_, 1)) : zV X nL m pc lv [] := by
  obtain ⟨p, l, e, R, s, mI, args, below, meth, cd, G, v0, m0⟩ := X
  obtain ⟨rfl, rfl, rfl, rfl, rfl, hx, hb, hml, hown, hts, hK, ⟨hok, hnw⟩, hr, hlk⟩ := hX
  subst h0; subst hm
  intro H locs ls h1 h2 h3
  exact W.vret hx hb (hr.trans hr0) (fun t ht hW => ⟨rfl, by rw [ht]; exact h1, h2.F ht⟩) h2.2.2 hd hlk
end ZW
