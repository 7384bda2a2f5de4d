/-! the two worlds -/
def zcatO (ad : Nat → Nat) (o : Nat) (f : Int → Int) : va_E := .inr (1, [.ref (ad (o + 1)), .ref (ad (o + 2)), .ref (ad (o + 3)), .ref (ad (o + 4)), .ref (ad (o + 5)), .ref (ad (o + 6)), .ref (ad (o + 7)), .ref (ad (o + 8)), .ref (ad (o + 9)), .int (zI (f 9)), .int (zI (f 10))])
def zrowO (ad : Nat → Nat) (o : Nat) (f : Int → Int) : va_E := .inr (3, [.ref (ad (o + 1)), .int (zI (f 1))])
def zshtO (ad : Nat → Nat) (o : Nat) (f : Int → Int) : va_E := .inr (4, [.ref (ad (o + 1)), .int (zI (f 1)), .int (zI (f 2))])
def zintE (ca : Nat → ClassId) (n : Nat) (f : Int → Int) : va_E := .inl (ca 0, n, .inl (fun k => zI (f (k : Int))))
def zlngE (ca : Nat → ClassId) (n : Nat) (f : Int → Int) : va_E := .inl (ca 1, n, .inr (.inl (fun k => zJ (f (k : Int)))))
def zrefE (ca : Nat → ClassId) (ad : Nat → Nat) (t n b : Nat) : va_E := .inl (ca t, n, .inr (.inr (.inr (.inr (fun k => if k < n then some (ad (b + 2 * k)) else none)))))
def zeC (ca : Nat → ClassId) (ad : Nat → Nat) (c : Nat) (f : Int → Int) : va_E := match c with
  | 0 => .inr (5, [.ref (ad 1), .ref (ad 11), .ref (ad 21), .ref (ad 25), .ref (ad 28), .ref (ad 33), .ref (ad 35), .ref (ad 44), .ref (ad 45)])
  | 1 => zcatO ad 1 f
  | 2 => zintE ca 48 f
  | 3 => zintE ca 48 f
  | 4 => zintE ca 50 f
  | 5 => zintE ca 50 f
  | 6 => zintE ca 50 f
  | 7 => zintE ca 50 f
  | 8 => zintE ca 50 f
  | 9 => zintE ca 50 f
  | 10 => zintE ca 300 f
  | 11 => zcatO ad 11 f
  | 12 => zintE ca 48 f
  | 13 => zintE ca 48 f
  | 14 => zintE ca 50 f
  | 15 => zintE ca 50 f
  | 16 => zintE ca 50 f
  | 17 => zintE ca 50 f
  | 18 => zintE ca 50 f
  | 19 => zintE ca 50 f
  | 20 => zintE ca 300 f
  | 21 => .inr (0, [.ref (ad 22), .ref (ad 23), .ref (ad 24), .int (zI (f 3))])
  | 22 => zintE ca 24 f
  | 23 => zintE ca 24 f
  | 24 => zintE ca 24 f
  | 25 => .inr (2, [.ref (ad 26), .ref (ad 27)])
  | 26 => zintE ca 49 f
  | 27 => zintE ca 49 f
  | 28 => zrefE ca ad 2 2 29
  | 29 => zrowO ad 29 f
  | 30 => zintE ca 48 f
  | 31 => zrowO ad 31 f
  | 32 => zintE ca 48 f
  | 33 => zrowO ad 33 f
  | 34 => zintE ca 48 f
  | 35 => zrefE ca ad 3 4 36
  | 36 => zshtO ad 36 f
  | 37 => zlngE ca 48 f
  | 38 => zshtO ad 38 f
  | 39 => zlngE ca 48 f
  | 40 => zshtO ad 40 f
  | 41 => zlngE ca 48 f
  | 42 => zshtO ad 42 f
  | 43 => zlngE ca 48 f
  | 44 => zintE ca 3 f
  | _ => zintE ca 48 f
def zeM (ca : Nat → ClassId) (ad : Nat → Nat) (c : Nat) (f : Int → Int) : va_E := match c with
  | 0 => .inr (6, [.int (zI (f 0)), .ref (ad 1), .int (zI (f 2)), .ref (ad 2), .ref (ad 3), .ref (ad 4), .int (zI (f 6)), .ref (ad 5), .ref (ad 6), .ref (ad 7), .ref (ad 8), .ref (ad 9), .int (zI (f 12)), .ref (ad 10), .ref (ad 11), .ref (ad 12), .ref (ad 13), .ref (ad 14)])
  | 1 => zintE ca 48 f
  | 2 => zintE ca 24 f
  | 3 => zintE ca 96 f
  | 4 => zintE ca 2 f
  | 5 => zintE ca 48 f
  | 6 => zintE ca 4 f
  | 7 => zintE ca 4 f
  | 8 => zlngE ca 192 f
  | 9 => zlngE ca 48 f
  | 10 => zintE ca 48 f
  | 11 => zintE ca 48 f
  | 12 => zintE ca 49 f
  | 13 => zintE ca 3 f
  | _ => zintE ca 48 f
abbrev ztys (ca : Nat → ClassId) : List (ClassId × FieldType) := [(ca 0, .int), (ca 1, .long), (ca 2, .object "MirrorNodes$Row"), (ca 3, .object "MirrorNodes$Sheet")]
abbrev zGC (D : va_G) (ca : Nat → ClassId) (ad : Nat → Nat) : zG := (D, vwCl, ztys ca, 46, zeC ca ad, ad)
abbrev zGM (D : va_G) (ca : Nat → ClassId) (ad : Nat → Nat) : zG := (D, vwCl, ztys ca, 15, zeM ca ad, ad)
def zCat (o : Nat) : Prop := o = 1 ∨ o = 11
def zRow (o : Nat) : Prop := o = 29 ∨ o = 31 ∨ o = 33
def zSht (o : Nat) : Prop := o = 36 ∨ o = 38 ∨ o = 40 ∨ o = 42
section ZG
variable {D : va_G} {ca : Nat → ClassId} {ad : Nat → Nat} {o : Nat} {m : zM} {f : Int → Int} {a : Int}
theorem zCat_lt (h : zCat o) : o < 46 := by rcases h with rfl | rfl <;> decide
theorem zRow_lt (h : zRow o) : o < 46 := by rcases h with rfl | rfl | rfl <;> decide
theorem zSht_lt (h : zSht o) : o < 46 := by rcases h with rfl | rfl | rfl | rfl <;> decide
theorem zCat_e (h : zCat o) : zeC ca ad o f = .inr (1, [.ref (ad (o + 1)), .ref (ad (o + 2)), .ref (ad (o + 3)), .ref (ad (o + 4)), .ref (ad (o + 5)), .ref (ad (o + 6)), .ref (ad (o + 7)), .ref (ad (o + 8)), .ref (ad (o + 9)), .int (zI (f 9)), .int (zI (f 10))]) := by rcases h with rfl | rfl <;> rfl
theorem zRow_e (h : zRow o) : zeC ca ad o f = .inr (3, [.ref (ad (o + 1)), .int (zI (f 1))]) := by rcases h with rfl | rfl | rfl <;> rfl
theorem zSht_e (h : zSht o) : zeC ca ad o f = .inr (4, [.ref (ad (o + 1)), .int (zI (f 1)), .int (zI (f 2))]) := by rcases h with rfl | rfl | rfl | rfl <;> rfl
theorem zMain_e : zeC ca ad 0 f = .inr (5, [.ref (ad 1), .ref (ad 11), .ref (ad 21), .ref (ad 25), .ref (ad 28), .ref (ad 33), .ref (ad 35), .ref (ad 44), .ref (ad 45)]) := rfl
theorem zActs_e : zeC ca ad 21 f = .inr (0, [.ref (ad 22), .ref (ad 23), .ref (ad 24), .int (zI (f 3))]) := rfl
theorem zCut_e : zeC ca ad 25 f = .inr (2, [.ref (ad 26), .ref (ad 27)]) := rfl
theorem zMod_e : zeM ca ad 0 f = .inr (6, [.int (zI (f 0)), .ref (ad 1), .int (zI (f 2)), .ref (ad 2), .ref (ad 3), .ref (ad 4), .int (zI (f 6)), .ref (ad 5), .ref (ad 6), .ref (ad 7), .ref (ad 8), .ref (ad 9), .int (zI (f 12)), .ref (ad 10), .ref (ad 11), .ref (ad 12), .ref (ad 13), .ref (ad 14)]) := rfl
theorem zuf_s (f : Int → Int) (i v : Int) : zuf f i v i = v := by simp [zuf]
theorem zuf_n (f : Int → Int) {i j : Int} (v : Int) (h : j ≠ i) : zuf f i v j = f j := by simp [zuf, h]
theorem zCat_p9 (h : zCat o) : zeC ca ad o (zuf f (9 : Nat) a) = .inr (1, [.ref (ad (o + 1)), .ref (ad (o + 2)), .ref (ad (o + 3)), .ref (ad (o + 4)), .ref (ad (o + 5)), .ref (ad (o + 6)), .ref (ad (o + 7)), .ref (ad (o + 8)), .ref (ad (o + 9)), .int (zI (f 9)), .int (zI (f 10))].set 9 (.int (zI a))) := by rw [zCat_e h]; simp [zuf]
theorem zCat_p10 (h : zCat o) : zeC ca ad o (zuf f (10 : Nat) a) = .inr (1, [.ref (ad (o + 1)), .ref (ad (o + 2)), .ref (ad (o + 3)), .ref (ad (o + 4)), .ref (ad (o + 5)), .ref (ad (o + 6)), .ref (ad (o + 7)), .ref (ad (o + 8)), .ref (ad (o + 9)), .int (zI (f 9)), .int (zI (f 10))].set 10 (.int (zI a))) := by rw [zCat_e h]; simp [zuf]
theorem zRow_p1 (h : zRow o) : zeC ca ad o (zuf f (1 : Nat) a) = .inr (3, [.ref (ad (o + 1)), .int (zI (f 1))].set 1 (.int (zI a))) := by rw [zRow_e h]; simp [zuf]
theorem zSht_p1 (h : zSht o) : zeC ca ad o (zuf f (1 : Nat) a) = .inr (4, [.ref (ad (o + 1)), .int (zI (f 1)), .int (zI (f 2))].set 1 (.int (zI a))) := by rw [zSht_e h]; simp [zuf]
theorem zSht_p2 (h : zSht o) : zeC ca ad o (zuf f (2 : Nat) a) = .inr (4, [.ref (ad (o + 1)), .int (zI (f 1)), .int (zI (f 2))].set 2 (.int (zI a))) := by rw [zSht_e h]; simp [zuf]
theorem zActs_p3 : zeC ca ad 21 (zuf f (3 : Nat) a) = .inr (0, [.ref (ad 22), .ref (ad 23), .ref (ad 24), .int (zI (f 3))].set 3 (.int (zI a))) := by rw [zActs_e]; simp [zuf]
theorem zMod_p0 : zeM ca ad 0 (zuf f (0 : Nat) a) = .inr (6, [.int (zI (f 0)), .ref (ad 1), .int (zI (f 2)), .ref (ad 2), .ref (ad 3), .ref (ad 4), .int (zI (f 6)), .ref (ad 5), .ref (ad 6), .ref (ad 7), .ref (ad 8), .ref (ad 9), .int (zI (f 12)), .ref (ad 10), .ref (ad 11), .ref (ad 12), .ref (ad 13), .ref (ad 14)].set 0 (.int (zI a))) := by rw [zMod_e]; simp [zuf]
theorem zMod_p2 : zeM ca ad 0 (zuf f (2 : Nat) a) = .inr (6, [.int (zI (f 0)), .ref (ad 1), .int (zI (f 2)), .ref (ad 2), .ref (ad 3), .ref (ad 4), .int (zI (f 6)), .ref (ad 5), .ref (ad 6), .ref (ad 7), .ref (ad 8), .ref (ad 9), .int (zI (f 12)), .ref (ad 10), .ref (ad 11), .ref (ad 12), .ref (ad 13), .ref (ad 14)].set 2 (.int (zI a))) := by rw [zMod_e]; simp [zuf]
theorem zMod_p6 : zeM ca ad 0 (zuf f (6 : Nat) a) = .inr (6, [.int (zI (f 0)), .ref (ad 1), .int (zI (f 2)), .ref (ad 2), .ref (ad 3), .ref (ad 4), .int (zI (f 6)), .ref (ad 5), .ref (ad 6), .ref (ad 7), .ref (ad 8), .ref (ad 9), .int (zI (f 12)), .ref (ad 10), .ref (ad 11), .ref (ad 12), .ref (ad 13), .ref (ad 14)].set 6 (.int (zI a))) := by rw [zMod_e]; simp [zuf]
theorem zMod_p12 : zeM ca ad 0 (zuf f (12 : Nat) a) = .inr (6, [.int (zI (f 0)), .ref (ad 1), .int (zI (f 2)), .ref (ad 2), .ref (ad 3), .ref (ad 4), .int (zI (f 6)), .ref (ad 5), .ref (ad 6), .ref (ad 7), .ref (ad 8), .ref (ad 9), .int (zI (f 12)), .ref (ad 10), .ref (ad 11), .ref (ad 12), .ref (ad 13), .ref (ad 14)].set 12 (.int (zI a))) := by rw [zMod_e]; simp [zuf]
theorem zCat_a1 (h : zCat o) : zInts (zGC D ca ad) (o + 1) 48 := by rcases h with rfl | rfl <;> exact ⟨Nat.le_of_ble_eq_true rfl, by decide, ca 0, rfl, fun _ => rfl⟩
theorem zCat_a2 (h : zCat o) : zInts (zGC D ca ad) (o + 2) 48 := by rcases h with rfl | rfl <;> exact ⟨Nat.le_of_ble_eq_true rfl, by decide, ca 0, rfl, fun _ => rfl⟩
theorem zCat_a3 (h : zCat o) : zInts (zGC D ca ad) (o + 3) 50 := by rcases h with rfl | rfl <;> exact ⟨Nat.le_of_ble_eq_true rfl, by decide, ca 0, rfl, fun _ => rfl⟩
theorem zCat_a4 (h : zCat o) : zInts (zGC D ca ad) (o + 4) 50 := by rcases h with rfl | rfl <;> exact ⟨Nat.le_of_ble_eq_true rfl, by decide, ca 0, rfl, fun _ => rfl⟩
theorem zCat_a5 (h : zCat o) : zInts (zGC D ca ad) (o + 5) 50 := by rcases h with rfl | rfl <;> exact ⟨Nat.le_of_ble_eq_true rfl, by decide, ca 0, rfl, fun _ => rfl⟩
theorem zCat_a6 (h : zCat o) : zInts (zGC D ca ad) (o + 6) 50 := by rcases h with rfl | rfl <;> exact ⟨Nat.le_of_ble_eq_true rfl, by decide, ca 0, rfl, fun _ => rfl⟩
theorem zCat_a7 (h : zCat o) : zInts (zGC D ca ad) (o + 7) 50 := by rcases h with rfl | rfl <;> exact ⟨Nat.le_of_ble_eq_true rfl, by decide, ca 0, rfl, fun _ => rfl⟩
theorem zCat_a8 (h : zCat o) : zInts (zGC D ca ad) (o + 8) 50 := by rcases h with rfl | rfl <;> exact ⟨Nat.le_of_ble_eq_true rfl, by decide, ca 0, rfl, fun _ => rfl⟩
theorem zCat_a9 (h : zCat o) : zInts (zGC D ca ad) (o + 9) 300 := by rcases h with rfl | rfl <;> exact ⟨Nat.le_of_ble_eq_true rfl, by decide, ca 0, rfl, fun _ => rfl⟩
theorem zRow_a1 (h : zRow o) : zInts (zGC D ca ad) (o + 1) 48 := by rcases h with rfl | rfl | rfl <;> exact ⟨Nat.le_of_ble_eq_true rfl, by decide, ca 0, rfl, fun _ => rfl⟩
theorem zSht_a1 (h : zSht o) : zLongs (zGC D ca ad) (o + 1) 48 := by rcases h with rfl | rfl | rfl | rfl <;> exact ⟨Nat.le_of_ble_eq_true rfl, by decide, ca 1, rfl, fun _ => rfl⟩
theorem zCi22 : zInts (zGC D ca ad) 22 24 := ⟨Nat.le_of_ble_eq_true rfl, by decide, ca 0, rfl, fun _ => rfl⟩
theorem zCi23 : zInts (zGC D ca ad) 23 24 := ⟨Nat.le_of_ble_eq_true rfl, by decide, ca 0, rfl, fun _ => rfl⟩
theorem zCi24 : zInts (zGC D ca ad) 24 24 := ⟨Nat.le_of_ble_eq_true rfl, by decide, ca 0, rfl, fun _ => rfl⟩
theorem zCi26 : zInts (zGC D ca ad) 26 49 := ⟨Nat.le_of_ble_eq_true rfl, by decide, ca 0, rfl, fun _ => rfl⟩
theorem zCi27 : zInts (zGC D ca ad) 27 49 := ⟨Nat.le_of_ble_eq_true rfl, by decide, ca 0, rfl, fun _ => rfl⟩
theorem zCi44 : zInts (zGC D ca ad) 44 3 := ⟨Nat.le_of_ble_eq_true rfl, by decide, ca 0, rfl, fun _ => rfl⟩
theorem zCi45 : zInts (zGC D ca ad) 45 48 := ⟨Nat.le_of_ble_eq_true rfl, by decide, ca 0, rfl, fun _ => rfl⟩
theorem zCr28 : zRefs (zGC D ca ad) 28 2 2 (fun k => 29 + 2 * k) := ⟨Nat.le_of_ble_eq_true rfl, by decide, ca 2, _, _, rfl, fun _ => rfl, fun k hk => if_pos hk⟩
theorem zCr35 : zRefs (zGC D ca ad) 35 3 4 (fun k => 36 + 2 * k) := ⟨Nat.le_of_ble_eq_true rfl, by decide, ca 3, _, _, rfl, fun _ => rfl, fun k hk => if_pos hk⟩
theorem zMi1 : zInts (zGM D ca ad) 1 48 := ⟨Nat.le_of_ble_eq_true rfl, by decide, ca 0, rfl, fun _ => rfl⟩
theorem zMi2 : zInts (zGM D ca ad) 2 24 := ⟨Nat.le_of_ble_eq_true rfl, by decide, ca 0, rfl, fun _ => rfl⟩
theorem zMi3 : zInts (zGM D ca ad) 3 96 := ⟨Nat.le_of_ble_eq_true rfl, by decide, ca 0, rfl, fun _ => rfl⟩
theorem zMi4 : zInts (zGM D ca ad) 4 2 := ⟨Nat.le_of_ble_eq_true rfl, by decide, ca 0, rfl, fun _ => rfl⟩
theorem zMi5 : zInts (zGM D ca ad) 5 48 := ⟨Nat.le_of_ble_eq_true rfl, by decide, ca 0, rfl, fun _ => rfl⟩
theorem zMi6 : zInts (zGM D ca ad) 6 4 := ⟨Nat.le_of_ble_eq_true rfl, by decide, ca 0, rfl, fun _ => rfl⟩
theorem zMi7 : zInts (zGM D ca ad) 7 4 := ⟨Nat.le_of_ble_eq_true rfl, by decide, ca 0, rfl, fun _ => rfl⟩
theorem zMi10 : zInts (zGM D ca ad) 10 48 := ⟨Nat.le_of_ble_eq_true rfl, by decide, ca 0, rfl, fun _ => rfl⟩
theorem zMi11 : zInts (zGM D ca ad) 11 48 := ⟨Nat.le_of_ble_eq_true rfl, by decide, ca 0, rfl, fun _ => rfl⟩
theorem zMi12 : zInts (zGM D ca ad) 12 49 := ⟨Nat.le_of_ble_eq_true rfl, by decide, ca 0, rfl, fun _ => rfl⟩
theorem zMi13 : zInts (zGM D ca ad) 13 3 := ⟨Nat.le_of_ble_eq_true rfl, by decide, ca 0, rfl, fun _ => rfl⟩
theorem zMi14 : zInts (zGM D ca ad) 14 48 := ⟨Nat.le_of_ble_eq_true rfl, by decide, ca 0, rfl, fun _ => rfl⟩
theorem zMi8 : zLongs (zGM D ca ad) 8 192 := ⟨Nat.le_of_ble_eq_true rfl, by decide, ca 1, rfl, fun _ => rfl⟩
theorem zMi9 : zLongs (zGM D ca ad) 9 48 := ⟨Nat.le_of_ble_eq_true rfl, by decide, ca 1, rfl, fun _ => rfl⟩
theorem zRow_k {i : Int} (h : 0 ≤ i ∧ i < 2) : zRow (29 + 2 * i.toNat) := by
  rcases (show i = 0 ∨ i = 1 by omega) with rfl | rfl
  · exact Or.inl rfl
  · exact Or.inr (Or.inl rfl)
theorem zSht_k {i : Int} (h : 0 ≤ i ∧ i < 4) : zSht (36 + 2 * i.toNat) := by
  rcases (show i = 0 ∨ i = 1 ∨ i = 2 ∨ i = 3 by omega) with rfl | rfl | rfl | rfl
  · exact Or.inl rfl
  · exact Or.inr (Or.inl rfl)
  · exact Or.inr (Or.inr (Or.inl rfl))
  · exact Or.inr (Or.inr (Or.inr rfl))
end ZG
