/-! the first memories, and all calls -/
theorem zCI_0 (o : Nat) (ho : o = 1 ∨ o = 11) : zCI zc0 o := by
  have e : zc0 o 9 = 0 ∧ zc0 o 10 = 0 ∧ zc0 (o + 3) 48 = 0 ∧ zc0 (o + 3) 49 = -1 ∧ zc0 (o + 4) 48 = 49 ∧ zc0 (o + 4) 49 = 49 ∧ zc0 (o + 5) 48 = 48 ∧ zc0 (o + 5) 49 = 48 ∧ zc0 (o + 8) 48 = 0 ∧ ∀ i : Int, 0 ≤ i → i < 300 → zc0 (o + 9) i = -1 := by
    rcases ho with rfl | rfl
    · exact ⟨by decide, by decide, by decide, by decide, by decide, by decide, by decide, by decide, by decide, fun i i0 i1 => by simp [zc0]; omega⟩
    · exact ⟨by decide, by decide, by decide, by decide, by decide, by decide, by decide, by decide, by decide, fun i i0 i1 => by simp [zc0]; omega⟩
  obtain ⟨e1, e2, e3, e4, e5, e6, e7, e8, e9, e10⟩ := e
  unfold zCI
  rw [e1, e2]
  refine ⟨by omega, fun i i0 i1 => by omega, ⟨by omega, fun v v0 v1 => by omega, fun v w v0 v1 v2 => by omega, fun p p0 p1 => by omega⟩, ⟨e3, e4, e5, e6, e7, e8, e9⟩, fun p p0 p1 => by omega, fun v v0 v1 => by omega, fun v v0 v1 => by omega, fun v v0 v1 => by omega, fun v v0 v1 => by omega, fun v v0 v1 => by omega, fun y c y0 y1 c0 c1 => Or.inl (e10 _ (by omega) (by omega))⟩
theorem zRel_0 : zRel zc0 zm0 := by
  refine ⟨⟨zCI_0 1 (Or.inl rfl), by decide, fun i i0 i1 => ?_⟩, zCI_0 11 (Or.inr rfl), ⟨by decide, by decide, True.intro⟩, fun k k0 k1 => ?_, ⟨by decide, by decide, fun i i0 i1 => ?_⟩, fun s s0 s1 => Or.inl ?_⟩
  · have e : zc0 1 9 = 0 := by decide
    omega
  · rcases (by omega : k = 0 ∨ k = 1) with rfl | rfl
    · refine ⟨by decide, by decide, fun i i0 i1 => ?_⟩
      have e : zm0 4 0 = -1 := by decide
      omega
    · refine ⟨by decide, by decide, fun i i0 i1 => ?_⟩
      have e : zm0 4 1 = -1 := by decide
      omega
  · have e : zm0 0 6 = 0 := by decide
    omega
  · rcases (by omega : s = 0 ∨ s = 1 ∨ s = 2 ∨ s = 3) with rfl | rfl | rfl | rfl <;> exact ⟨by decide, by decide⟩
theorem zok : zOK zRel := ⟨zRel_0, fun mC mM h => ⟨S_put h, S_pop h, S_change h, S_undo h, S_letter h, S_node h, S_keep h, S_back h, S_common h, S_ends h, S_groups h, S_cuts h, S_evens h, S_in h, S_mend h, S_turned h, S_next h, S_grow h, S_odds h, S_walks h, S_feed h, S_clear h, S_find h, S_times h, S_sheet h, S_drop h, S_item h, S_copy h, S_spell h, S_read h, S_count h⟩⟩
