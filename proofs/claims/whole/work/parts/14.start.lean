theorem zW_sub {w : Cond} (h : w ∈ zW) : w ∈ lw_tbl := (List.mem_filter.mp h).1
theorem zis_0 : Cond.instantiable RX0 4 ∈ zW := zW_mem 112 (by decide +kernel) rfl
theorem zis_1 : Cond.instantiable RX1 11 ∈ zW := zW_mem 55 (by decide +kernel) rfl
theorem zis_2 : Cond.instantiable RX2 2 ∈ zW := zW_mem 132 (by decide +kernel) rfl
theorem zis_3 : Cond.instantiable RX3 2 ∈ zW := zW_mem 146 (by decide +kernel) rfl
theorem zis_4 : Cond.instantiable RX4 3 ∈ zW := zW_mem 162 (by decide +kernel) rfl
theorem zis_5 : Cond.instantiable RX5 9 ∈ zW := zW_mem 47 (by decide +kernel) rfl
theorem zis_6 : Cond.instantiable RX6 18 ∈ zW := zW_mem 564 (by decide +kernel) rfl
theorem zcl_RL_7 : Cond.classLink RL 7 RX5 ∈ zW ∧ Cond.initialized RX5 ∈ zW := ⟨zW_mem 46 (by decide +kernel) rfl, zW_mem 36 (by decide +kernel) rfl⟩
theorem zcl_RL_10 : Cond.classLink RL 10 RX6 ∈ zW ∧ Cond.initialized RX6 ∈ zW := ⟨zW_mem 563 (by decide +kernel) rfl, zW_mem 43 (by decide +kernel) rfl⟩
set_option maxRecDepth 20000 in
theorem zin_RL_9 : Cond.methodLink RL 9 yX5_init ∈ zW ∧ yMi RL 9 yX5_init cX5_init 2 0 := ⟨zW_mem 48 (by decide +kernel) rfl, ⟨zW_mem 49 (by decide +kernel) rfl, zW_mem 36 (by decide +kernel) rfl, zW_mem 50 (by rfl) rfl⟩, rfl, by decide +kernel, by decide +kernel, by decide +kernel⟩
set_option maxRecDepth 20000 in
theorem zin_RL_12 : Cond.methodLink RL 12 yX6_init ∈ zW ∧ yMi RL 12 yX6_init cX6_init 2 0 := ⟨zW_mem 565 (by decide +kernel) rfl, ⟨zW_mem 566 (by decide +kernel) rfl, zW_mem 43 (by decide +kernel) rfl, zW_mem 567 (by rfl) rfl⟩, rfl, by decide +kernel, by decide +kernel, by decide +kernel⟩
theorem st_known {s : State} {args : Array Value} (hts : ∀ w ∈ lw_tbl, w.before args s = true) : ∃ (D : va_G) (ca : Nat → ClassId), va_K D vwCl (ztys ca) s ∧ yN s := by
  have htz : ∀ w ∈ zW, w.before args s = true := fun w h => hts w (zW_sub h)
  obtain ⟨c0, i0, hk0⟩ := u_known (C := RX0) (T := TX0) (N := 4) (n := 4) htz ziX0 (htz _ zis_0)
  obtain ⟨c1, i1, hk1⟩ := u_known (C := RX1) (T := TX1) (N := 11) (n := 11) htz ziX1 (htz _ zis_1)
  obtain ⟨c2, i2, hk2⟩ := u_known (C := RX2) (T := TX2) (N := 2) (n := 2) htz ziX2 (htz _ zis_2)
  obtain ⟨c3, i3, hk3⟩ := u_known (C := RX3) (T := TX3) (N := 2) (n := 2) htz ziX3 (htz _ zis_3)
  obtain ⟨c4, i4, hk4⟩ := u_known (C := RX4) (T := TX4) (N := 3) (n := 3) htz ziX4 (htz _ zis_4)
  obtain ⟨c5, i5, hk5⟩ := u_known (C := RX5) (T := TX5) (N := 9) (n := 9) htz ziX5 (htz _ zis_5)
  obtain ⟨c6, i6, hk6⟩ := u_known (C := RX6) (T := TX6) (N := 18) (n := 18) htz ziX6 (htz _ zis_6)
  obtain ⟨cI, kI, pI, aI, bI, dI⟩ := Cond.arrayClass_spec (htz _ zac_int)
  obtain ⟨cJ, kJ, pJ, aJ, bJ, dJ⟩ := Cond.arrayClass_spec (htz _ zac_long)
  have hoR : va_AO "MirrorNodes$Row" s := va_AO.of (hts (.arrayOver (.object "MirrorNodes$Row")) (List.mem_of_getElem? (i := 145) (by decide +kernel)))
  have hoS : va_AO "MirrorNodes$Sheet" s := va_AO.of (hts (.arrayOver (.object "MirrorNodes$Sheet")) (List.mem_of_getElem? (i := 161) (by decide +kernel)))
  obtain ⟨pR, cR, kR, aR, -, bR, dR, eR⟩ := Cond.arrayOver_spec hoR
  obtain ⟨pS, cS, kS, aS, -, bS, dS, eS⟩ := Cond.arrayOver_spec hoS
  refine ⟨(fun k => match k with | 0 => c0 | 1 => c1 | 2 => c2 | 3 => c3 | 4 => c4 | 5 => c5 | _ => c6, fun k => match k with | 0 => i0 | 1 => i1 | 2 => i2 | 3 => i3 | 4 => i4 | 5 => i5 | _ => i6), fun k => match k with | 0 => cI | 1 => cJ | 2 => cR | _ => cS, ⟨?_, ?_⟩, va_Nw.of rfl (hts (.methodLinkNest RX4 32 yX5_isByte "MirrorNodes") (List.mem_of_getElem? (i := 550) (by decide +kernel))), va_Nw.of rfl (hts (.methodLinkNest RX5 21 yX0_init "MirrorNodes") (List.mem_of_getElem? (i := 113) (by decide +kernel))), va_Nw.of rfl (hts (.methodLinkNest RX5 28 yX2_init "MirrorNodes") (List.mem_of_getElem? (i := 133) (by decide +kernel))), va_Nw.of rfl (hts (.methodLinkNest RX5 52 yX4_init "MirrorNodes") (List.mem_of_getElem? (i := 163) (by decide +kernel))), hoR, hoS⟩
  · intro k q hq
    match k, hq with
    | 0, hq => cases hq; exact hk0
    | 1, hq => cases hq; exact hk1
    | 2, hq => cases hq; exact hk2
    | 3, hq => cases hq; exact hk3
    | 4, hq => cases hq; exact hk4
    | 5, hq => cases hq; exact hk5
    | 6, hq => cases hq; exact hk6
    | k + 7, hq => simp at hq
  · intro k q hq
    match k, hq with
    | 0, hq => cases hq; exact ⟨fun n z => ⟨(fun k h => by cases h), kI, bI, pI, dI⟩, aI⟩
    | 1, hq => cases hq; exact ⟨fun n z => ⟨(fun k h => by cases h), kJ, bJ, pJ, dJ⟩, aJ⟩
    | 2, hq => cases hq; exact ⟨fun n z => ⟨(fun k h => by cases h), kR, bR, pR, dR⟩, kR, pR, bR, dR, aR, eR⟩
    | 3, hq => cases hq; exact ⟨fun n z => ⟨(fun k h => by cases h), kS, bS, pS, dS⟩, kS, pS, bS, dS, aS, eS⟩
    | k + 4, hq => simp at hq
theorem st_D {A : Nat → Prop} {G1 G2 : zG} {m1 m2 : zM} (h : va_D A (zws G1 m1 ++ zws G2 m2)) : zGok G1 ∧ zGok G2 ∧ (∀ q, zA G1 q → A q) ∧ (∀ q, zA G2 q → A q) ∧ ∀ q, zA G1 q → ¬ zA G2 q := by
  have l1 : (zws G1 m1).length = G1.2.2.2.1 := by simp [zws]
  have e1 : ∀ c, c < G1.2.2.2.1 → (zws G1 m1 ++ zws G2 m2)[c]? = some (G1.2.2.2.2.2 c, G1.2.2.2.2.1 c (m1 c)) := fun c hc => by
    rw [List.getElem?_append_left (by rw [l1]; exact hc), zws_get hc]
  have e2 : ∀ c, c < G2.2.2.2.1 → (zws G1 m1 ++ zws G2 m2)[G1.2.2.2.1 + c]? = some (G2.2.2.2.2.2 c, G2.2.2.2.2.1 c (m2 c)) := fun c hc => by
    rw [List.getElem?_append_right (by rw [l1]; omega), l1, show G1.2.2.2.1 + c - G1.2.2.2.1 = c by omega, zws_get hc]
  refine ⟨fun c c' hc hc' he => h.1 _ _ _ _ (e1 c hc) (e1 c' hc') he, fun c c' hc hc' he => ?_, fun q hq => ?_, fun q hq => ?_, fun q hq hq2 => ?_⟩
  · have := h.1 _ _ _ _ (e2 c hc) (e2 c' hc') he
    omega
  · obtain ⟨c, hc, rfl⟩ := hq
    exact h.2 _ _ (e1 c hc)
  · obtain ⟨c, hc, rfl⟩ := hq
    exact h.2 _ _ (e2 c hc)
  · obtain ⟨c, hc, rfl⟩ := hq
    obtain ⟨c', hc', he⟩ := hq2
    have := h.1 _ _ _ _ (e1 c hc) (e2 c' hc') he.symm
    omega
theorem st_P {D : va_G} {G1 G2 : zG} {m1 m2 : zM} {H : Heap} (h : va_P D vwCl (zws G1 m1 ++ zws G2 m2) H) : va_P D vwCl (zws G1 m1) H ∧ va_P D vwCl (zws G2 m2) H := by
  refine ⟨fun k q hk => h k q ?_, fun k q hk => h ((zws G1 m1).length + k) q ?_⟩
  · rw [List.getElem?_append_left (List.getElem?_eq_some_iff.mp hk).1]; exact hk
  · rw [List.getElem?_append_right (by omega), show (zws G1 m1).length + k - (zws G1 m1).length = k by omega]; exact hk
set_option maxHeartbeats 4000000 in
set_option maxRecDepth 100000 in
theorem whole_from {Rel : zM → zM → Prop} (hOK : zOK Rel) {p : Program} {e : Env} {s : State} {m : MethodId} {below : List Frame} {meth : Method} {c : Code} (l : Launch) {b L : Nat} {xs : Nat → Int32} (hL : L ≤ 3072) (C0 : lw_At p s m meth c b L xs) : W p l e room_1 s m #[Value.ref b] below meth c s.heap [] 0 0 (lw_Z below #[Value.ref b] s) (entryFrame m ([Value.ref b] : List Value).toArray 4) := by
  obtain ⟨hx, hb, hr, hml, hown, htsl, hX, hbl, hlocks, hgv⟩ := id C0
  have hown : s.vm.findClass RL = some m.cls := hown
  have hts : ∀ w ∈ zW, w.before #[Value.ref b] s = true := fun w h => htsl w (zW_sub h)
  obtain ⟨D, ca, hK, hN⟩ := st_known htsl
  have hA : ∀ q : Nat, s.heap.size ≤ q → (fun q : Nat => s.heap.size ≤ q) q := fun _ h => h
  have hS : va_S (fun q : Nat => s.heap.size ≤ q) s.heap s.heap [] := va_S.rf
  have hP : va_P D vwCl [] s.heap := fun k q h => by simp at h
  have hD : va_D (fun q : Nat => s.heap.size ≤ q) [] := ⟨fun i j p q h => by simp at h, fun k q h => by simp at h⟩
  have hl := lv_entry ([.ref b]) (n := 4) (Nat.le_of_ble_eq_true rfl)
  rw [lg_entry_eq]
  generalize (lg_sl ([.ref b]) ++ List.replicate (4 - (lg_sl ([.ref b])).length) Slot.unset).toArray = ls at hl ⊢
  have hl : lv_has ls 4 [(0, .ref b)] := hl
  refine va_new (ci := 5) (fs := [.null, .null, .null, .null, .null, .null, .null, .null, .null]) (C := RX5) (T := TX5) (N := 9) hx hb hts ziX5 tyX5 tyX5_ok hown (hts _ zcl_RL_7.1) (hts _ zis_5) (hts _ zcl_RL_7.2) hK hP hD hS hA rfl (by intro j hj; match j, hj with | 0, _ => exact rfl | 1, _ => exact rfl | 2, _ => exact rfl | 3, _ => exact rfl | 4, _ => exact rfl | 5, _ => exact rfl | 6, _ => exact rfl | 7, _ => exact rfl | 8, _ => exact rfl | (j + 9), hj => exact absurd hj (by omega)) (by decide) (by decide) dL_law_0 (fun q1 H1 hP hD hS => ?_)
  refine lv_dup hx hb dL_law_3 rfl ?_
  have hP9 : va_P D vwCl [(q1, .inr (5, [.null, .null, .null, .null, .null, .null, .null, .null, .null]))] H1 := hP
  have hlt : q1 < H1.size := (hP 0 _ rfl).lt
  obtain ⟨⟨u2, u4, u5⟩, uy1, ud1, ud2, ud3⟩ := zin_RL_9.2
  refine y_goes (wr := []) (q := q1) (va_runI (Ts := zW) (As := []) (rest := [.ref q1]) ⟨hx, hb, hml, hown, hts⟩ (uX5 (l := l) (D := D) (ca := ca) (h0 := q1) H1.size hlt) ⟨callB_of 0 hts (zW_code u5) rfl rfl rfl (hts _ u4) (hts _ zin_RL_9.1) ⟨ud1, ud2, ud3⟩ ⟨by decide, by decide⟩, uy1, hts _ u2⟩ ⟨fun a U g mk q => by obtain ⟨q0, q1, q2, q3, q4⟩ := q; exact ⟨q0, q1, q2, va_K.moved (u := U) (U := U.calling g mk a) (Vm.Alike.refl U.vm) q3, yN.same (u := U) (U := U.calling g mk a) rfl q4⟩, fun U hU hW => ⟨rfl, by rw [hU], by rw [hU]; exact hP9, va_K.moved hW.alike hK, yN.warm hW hN⟩⟩ rfl rfl hl.1 rfl (lv_room (Nat.le_of_ble_eq_true rfl)) dL_law_4 ⟨by decide, by decide⟩) hP hD hS hA (fun w1 H2 locs2 hp hP hD hS => ?_)
  clear hP9
  obtain ⟨adC, hc0, rfl⟩ := hp
  rw [List.nil_append] at hP hD
  refine lv_astore_n (lv' := [(1, .ref q1), (0, .ref b)]) hx hb dL_law_7 rfl hl (by decide) rfl (fun ls hl => ?_)
  refine va_new (ci := 6) (fs := [.int 0, .null, .int 0, .null, .null, .null, .int 0, .null, .null, .null, .null, .null, .int 0, .null, .null, .null, .null, .null]) (C := RX6) (T := TX6) (N := 18) hx hb hts ziX6 tyX6 tyX6_ok hown (hts _ zcl_RL_10.1) (hts _ zis_6) (hts _ zcl_RL_10.2) hK hP hD hS hA rfl (by intro j hj; match j, hj with | 0, _ => exact rfl | 1, _ => exact rfl | 2, _ => exact rfl | 3, _ => exact rfl | 4, _ => exact rfl | 5, _ => exact rfl | 6, _ => exact rfl | 7, _ => exact rfl | 8, _ => exact rfl | 9, _ => exact rfl | 10, _ => exact rfl | 11, _ => exact rfl | 12, _ => exact rfl | 13, _ => exact rfl | 14, _ => exact rfl | 15, _ => exact rfl | 16, _ => exact rfl | 17, _ => exact rfl | (j + 18), hj => exact absurd hj (by omega)) (by decide) (by decide) dL_law_8 (fun q2 H3 hP hD hS => ?_)
  refine lv_dup hx hb dL_law_11 rfl ?_
  have hq2 : (zws (zGC D ca adC) zc0 ++ [(q2, .inr (6, [.int 0, .null, .int 0, .null, .null, .null, .int 0, .null, .null, .null, .null, .null, .int 0, .null, .null, .null, .null, .null]))])[46]? = some (q2, .inr (6, [.int 0, .null, .int 0, .null, .null, .null, .int 0, .null, .null, .null, .null, .null, .int 0, .null, .null, .null, .null, .null])) := by
    rw [List.getElem?_append_right (by simp [zws])]
    simp [zws]
  have hP9 : va_P D vwCl [(q2, .inr (6, [.int 0, .null, .int 0, .null, .null, .null, .int 0, .null, .null, .null, .null, .null, .int 0, .null, .null, .null, .null, .null]))] H3 := fun k x hk => by
    have h9 := (List.getElem?_eq_some_iff.mp hk).1
    simp at h9
    subst h9
    cases hk
    exact hP _ _ hq2
  have hlt : q2 < H3.size := (hP _ _ hq2).lt
  obtain ⟨⟨u2, u4, u5⟩, uy1, ud1, ud2, ud3⟩ := zin_RL_12.2
  refine y_goes (wr := zws (zGC D ca adC) zc0) (q := q2) (va_runI (Ts := zW) (As := []) (rest := [.ref q2]) ⟨hx, hb, hml, hown, hts⟩ (uX6 (l := l) (D := D) (ca := ca) (h0 := q2) H3.size hlt) ⟨callB_of 0 hts (zW_code u5) rfl rfl rfl (hts _ u4) (hts _ zin_RL_12.1) ⟨ud1, ud2, ud3⟩ ⟨by decide, by decide⟩, uy1, hts _ u2⟩ ⟨fun a U g mk q => by obtain ⟨q0, q1, q2, q3, q4⟩ := q; exact ⟨q0, q1, q2, va_K.moved (u := U) (U := U.calling g mk a) (Vm.Alike.refl U.vm) q3, yN.same (u := U) (U := U.calling g mk a) rfl q4⟩, fun U hU hW => ⟨rfl, by rw [hU], by rw [hU]; exact hP9, va_K.moved hW.alike hK, yN.warm hW hN⟩⟩ rfl rfl hl.1 rfl (lv_room (Nat.le_of_ble_eq_true rfl)) dL_law_12 ⟨by decide, by decide⟩) hP hD hS hA (fun w1 H4 locs4 hp hP hD hS => ?_)
  obtain ⟨adM, hm0, rfl⟩ := hp
  refine lv_astore_n (lv' := [(2, .ref q2), (1, .ref q1), (0, .ref b)]) hx hb dL_law_15 rfl hl (by decide) rfl (fun ls hl => ?_)
  refine lv_iconst (v := zI 0) hx hb dL_law_16 rfl ?_
  refine lv_istore_n (lv' := [(3, .int (zI 0)), (2, .ref q2), (1, .ref q1), (0, .ref b)]) hx hb dL_law_17 rfl hl (by decide) rfl (fun ls hl => ?_)
  obtain ⟨hgC, hgM, haC, haM, hdis⟩ := st_D hD
  obtain ⟨hPC, hPM⟩ := st_P hP
  have hXC : xC (p, l, e, s, m, below, meth, c, b, L, xs, D, ca, adC, adM) l b L xs D ca adC adM := ⟨rfl, rfl, rfl, rfl, rfl, rfl, rfl, rfl, hx, hb, hr, hml, hown, hts, hX, hbl, hlocks, hK, hN.1, hgC, hgM, haC, haM, hdis, hL⟩
  have h9 := law_loop hOK.2 hXC hgC hgM hL (L + 1) 0 zc0 zm0 (by omega) (by omega) (by omega) hOK.1
  have hl2 : lv_has ls 4 [(0, .ref b), (1, .ref q1), (2, .ref q2), (3, .int (zI 0))] := lv_sub hl [3, 2, 1, 0] rfl
  rw [← hc0, ← hm0] at hl2
  exact h9 H4 locs4 ls hPC hPM hS hl2
