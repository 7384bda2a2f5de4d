/-! the catalogue's own calls -/
def zfr (o : Nat) (m m' : zM) : Prop := ∀ c : Nat, c < o ∨ o + 9 < c → m' c = m c
theorem zfr_rf {o : Nat} {m : zM} : zfr o m m := fun _ _ => rfl
theorem zfr_tr {o : Nat} {m m' m'' : zM} (h : zfr o m m') (h' : zfr o m' m'') : zfr o m m'' := fun c hc => (h' c hc).trans (h c hc)
theorem zfr_up {o : Nat} {m : zM} {c : Nat} {i v : Int} (h1 : o ≤ c) (h2 : c ≤ o + 9) : zfr o m (zup m c i v) := fun c' hc => zup_o m i v (by omega)
theorem zuf_self (f : Int → Int) (i : Int) : zuf f i (f i) = f := by
  funext j
  by_cases h : j = i
  · subst h; exact zuf_e _ _ _
  · exact zuf_d _ _ h
theorem add_spec {m : zM} {o : Nat} {a : Int} (h : zCI m o) (hn : m o 9 < 48) (har : 97 ≤ a ∧ a ≤ 102) :
    ∃ r m', FX1_add o a m = some (r, m') ∧ zCI m' o ∧ m' o 9 = m o 9 + 1 ∧ m' (o + 1) = zuf (m (o + 1)) (m o 9) a ∧ zL (m' (o + 1)) (m o 9) r ∧ zfr o m m' ∧ ((m' o 10 = m o 10 + 1 ∧ zN (m' (o + 1)) (m o 9) r) ∨ (m' o 10 = m o 10 ∧ ¬ zN (m' (o + 1)) (m o 9) r)) := by
  have hn0 := h.1.1
  have hNn := zci_N h
  obtain ⟨m1, hm1⟩ : ∃ m1, m1 = zup m (o + 1) (m o 9) a := ⟨_, rfl⟩
  have e0 : m1 o = m o := by rw [hm1]; simp [zup_o]
  have e1 : m1 (o + 1) = zuf (m (o + 1)) (m o 9) a := by rw [hm1]; simp [zup_c]
  have ea : m1 (o + 1) (m o 9) = a := by rw [e1, zuf_e]
  have h1 : zCI m1 o := by
    have q : zci (m1 (o + 1)) (m (o + 2)) (m (o + 3)) (m (o + 4)) (m (o + 5)) (m (o + 6)) (m (o + 7)) (m (o + 8)) (m (o + 9)) (m o 9) (m o 10) := zci_cg h (fun i i0 i1 => by rw [e1, zuf_d _ _ (by omega)])
    unfold zCI
    rw [e0]
    have w : ∀ k, 1 < k → m1 (o + k) = m (o + k) := fun k hk => by rw [hm1]; exact zup_o m _ _ (by omega)
    rw [w 2 (by omega), w 3 (by omega), w 4 (by omega), w 5 (by omega), w 6 (by omega), w 7 (by omega), w 8 (by omega), w 9 (by omega)]
    exact q
  have hfr1 : zfr o m m1 := by rw [hm1]; exact zfr_up (by omega) (by omega)
  have ew9 : m1 (o + 9) = m (o + 9) := by rw [hm1]; exact zup_o m _ _ (by omega)
  -- where the search begins
  have hu0 : ∃ u0, zsf (m1 (o + 1)) (m1 (o + 3)) (m1 (o + 7)) (m1 o 9) (m1 o 10) u0 ∧ (∀ j, m1 (o + 3) u0 + 2 < j → j < m o 9 + 2 → j ≤ m1 o 9 + 1 → ¬ zp (m1 (o + 1)) (m1 o 9 + 1 - j) j) ∧ ((m o 9 = 0 ∧ u0 = 48) ∨ (m o 9 ≠ 0 ∧ u0 = m1 (o + 2) (m o 9 - 1))) := by
    by_cases c : m o 9 = 0
    · refine ⟨48, Or.inr (Or.inl rfl), fun j j1 j2 j3 => ?_, Or.inl ⟨c, rfl⟩⟩
      have := h1.2.2.2.1.1
      rw [e0] at j3
      omega
    · obtain ⟨a1, a2, a3, a4, a5⟩ := h1.2.2.2.2.1 (m o 9 - 1) (by omega) (by rw [e0]; omega)
      have a32 := a3.2.1
      refine ⟨m1 (o + 2) (m o 9 - 1), Or.inr (Or.inr ⟨a1, a2, by rw [e0]; omega, zs_to a4 rfl (by rw [e0]; omega) rfl⟩), fun j j1 j2 j3 hp => ?_, Or.inr ⟨c, rfl⟩⟩
      rw [e0] at j3 hp
      exact a3.2.2.2 (j - 2) (by omega) (by omega) (zp_to (zp_in hp) (by omega) rfl)
  obtain ⟨u0, hz0, hmax, hu0⟩ := hu0
  obtain ⟨z, z1, z2, z3, z4, z5, z6⟩ := lb_spec h1 (by rw [e0]; exact hn) (by rw [e0]; exact ea) har (m o 9 + 2) hz0 hmax
  have hzb := zsf_b h1 z2
  have hL : zL (m1 (o + 1)) (m1 o 9) (m1 (o + 3) z + 2) := ⟨by omega, z5, z4, fun j j1 j2 => z6 j j1 (by rw [e0] at j2; omega) j2⟩
  have key : ∃ r m', (zcl (FX1_longestBehind o u0 a m1) fun r2 => zcl (FX1_edge r2 a) fun r3 => zrd m1 (o + 9) r3 300 fun x4 => zjn (fun (u62_3 : Int) (mj62 : zM) => zwr mj62 (o + 2) (mj62 o 9) u62_3 48 fun m5 => zpf m5 o 9 ((m5 o 9) + 1) fun m6 => zrd m6 (o + 3) u62_3 50 fun x7 => some (x7, m6)) fun j62 => if zI x4 = zI (-1) then (zcl2 (FX1_create o r2 a m1) fun r8 m8 => j62 r8 m8) else (j62 x4 m1)) = some (r, m') ∧ zCI m' o ∧ m' o 9 = m o 9 + 1 ∧ m' (o + 1) = zuf (m (o + 1)) (m o 9) a ∧ zL (m' (o + 1)) (m o 9) r ∧ zfr o m m' ∧ ((m' o 10 = m o 10 + 1 ∧ zN (m' (o + 1)) (m o 9) r) ∨ (m' o 10 = m o 10 ∧ ¬ zN (m' (o + 1)) (m o 9) r)) := by
    rw [zcl_p z1, zcl_p (show FX1_edge z a = some (z * 6 + a - 97) from rfl), zrd_p ⟨by omega, by omega⟩, zjn_p]
    have ez : z * 6 + a - 97 = z * 6 + (a - 97) := by omega
    by_cases c : m1 (o + 9) (z * 6 + (a - 97)) = -1
    · have hN : zN (m1 (o + 1)) (m1 o 9) (m1 (o + 3) z + 2) := fun i0 i1 i2 hs => by
        have q := zci_wid_ex h1 z2 z4 i1 (by omega) hs
        rw [e0, ea, c] at q
        omega
      obtain ⟨sh, s, c1, c2⟩ := create_spec h1 (by rw [e0]; exact hn) (by rw [e0]; exact ea) har z2 hL hN c
      rw [ez, if_pos (by rw [c]), zcl2_p c1]
      have g0 : crM m1 o z a sh s o = zuf (m1 o) 10 (m1 o 10 + 1) := by unfold crM; simp [zup_c, zup_o]
      have g09 : crM m1 o z a sh s o 9 = m o 9 := by rw [g0, zuf_d _ _ (by omega), e0]
      dsimp only
      rw [zwr_p ⟨by rw [g09]; omega, by rw [g09]; omega⟩, zpf_p, zrd_p ⟨by rw [e0]; omega, by rw [e0]; omega⟩]
      rw [g09]
      obtain ⟨m', hm'⟩ : ∃ m', m' = zup (zup (crM m1 o z a sh s) (o + 2) (m o 9) (m1 o 10)) o 9 (zup (crM m1 o z a sh s) (o + 2) (m o 9) (m1 o 10) o 9 + 1) := ⟨_, rfl⟩
      rw [← hm']
      have k0 : zup (crM m1 o z a sh s) (o + 2) (m o 9) (m1 o 10) o = crM m1 o z a sh s o := zup_o _ _ _ (by omega)
      have p9 : m' o 9 = m o 9 + 1 := by rw [hm', zup_c, zuf_e, k0, g09]
      have p10 : m' o 10 = m o 10 + 1 := by rw [hm', zup_c, zuf_d _ _ (by omega), k0, g0, zuf_e, e0]
      have p1 : m' (o + 1) = m1 (o + 1) := by rw [hm']; unfold crM; simp [zup_c, zup_o]
      have p2 : m' (o + 2) = zuf (m1 (o + 2)) (m o 9) (m1 o 10) := by rw [hm']; unfold crM; simp [zup_c, zup_o]
      have p3 : m' (o + 3) = zuf (m1 (o + 3)) (m1 o 10) (m1 (o + 3) z + 2) := by rw [hm']; unfold crM; simp [zup_c, zup_o]
      have p4 : m' (o + 4) = zuf (m1 (o + 4)) (m1 o 10) sh := by rw [hm']; unfold crM; simp [zup_c, zup_o]
      have p5 : m' (o + 5) = zuf (m1 (o + 5)) (m1 o 10) s := by rw [hm']; unfold crM; simp [zup_c, zup_o]
      have p6 : m' (o + 6) = zuf (m1 (o + 6)) (m1 o 10) z := by rw [hm']; unfold crM; simp [zup_c, zup_o]
      have p7 : m' (o + 7) = zuf (m1 (o + 7)) (m1 o 10) (m1 o 9) := by rw [hm']; unfold crM; simp [zup_c, zup_o]
      have p8 : m' (o + 8) = zuf (m1 (o + 8)) (m1 o 10) (m1 (o + 8) sh + 1) := by rw [hm']; unfold crM; simp [zup_c, zup_o]
      have pw : m' (o + 9) = zuf (m1 (o + 9)) (z * 6 + (a - 97)) (m1 o 10) := by rw [hm', ← ez]; unfold crM; simp [zup_c, zup_o]
      refine ⟨m' (o + 3) (m1 o 10), m', rfl, ?_, p9, by rw [p1, e1], ?_, ?_, ?_⟩
      · unfold zCI
        rw [p9, p10, p1, p2, p3, p4, p5, p6, p7, p8, pw]
        rw [e0] at c2
        rw [e0]
        exact c2
      · rw [p1, p3, zuf_e]
        rw [e0] at hL
        exact hL
      · intro c hc
        rw [hm']
        unfold crM
        rw [zup_o _ _ _ (by omega), zup_o _ _ _ (by omega), zup_o _ _ _ (by omega), zup_o _ _ _ (by omega), zup_o _ _ _ (by omega), zup_o _ _ _ (by omega), zup_o _ _ _ (by omega), zup_o _ _ _ (by omega), zup_o _ _ _ (by omega), zup_o _ _ _ (by omega)]
        exact hfr1 c hc
      · refine Or.inl ⟨p10, ?_⟩
        rw [p1, p3, zuf_e]
        rw [e0] at hN
        exact hN
    · have q := zci_wid_hit h1 (z := z) (by rw [e0, ea]; exact har) z2 z4 (by rw [e0, ea]; exact c)
      rw [e0, ea] at q
      obtain ⟨v0, v1, v2, v3⟩ := q
      rw [ez, if_neg (zne_i ⟨by omega, by omega, by omega, by omega, c⟩)]
      generalize m1 (o + 9) (z * 6 + (a - 97)) = v at *
      have g09 : m1 o 9 = m o 9 := by rw [e0]
      dsimp only
      rw [zwr_p ⟨by rw [g09]; omega, by rw [g09]; omega⟩, zpf_p, zrd_p ⟨by omega, by omega⟩, g09]
      obtain ⟨m', hm'⟩ : ∃ m', m' = zup (zup m1 (o + 2) (m o 9) v) o 9 (zup m1 (o + 2) (m o 9) v o 9 + 1) := ⟨_, rfl⟩
      rw [← hm']
      have k0 : zup m1 (o + 2) (m o 9) v o = m1 o := zup_o _ _ _ (by omega)
      have p9 : m' o 9 = m o 9 + 1 := by rw [hm', zup_c, zuf_e, k0, g09]
      have p10 : m' o 10 = m o 10 := by rw [hm', zup_c, zuf_d _ _ (by omega), k0, e0]
      have p2 : m' (o + 2) = zuf (m1 (o + 2)) (m o 9) v := by rw [hm', zup_o _ _ _ (by omega), zup_c]
      have pk : ∀ k, k = 1 ∨ 2 < k → m' (o + k) = m1 (o + k) := fun k hk => by rw [hm', zup_o _ _ _ (by omega), zup_o _ _ _ (by omega)]
      have hL' : zL (m1 (o + 1)) (m o 9) (m1 (o + 3) v) := by rw [v2]; rw [e0] at hL; exact hL
      have hs' : zs (m1 (o + 1)) (m1 (o + 7) v + 1 - m1 (o + 3) v) (m o 9 + 1 - m1 (o + 3) v) (m1 (o + 3) v) := zs_to v3 rfl (by omega) v2
      have hh : zci (m1 (o + 1)) (zuf (m1 (o + 2)) (m o 9) v) (m1 (o + 3)) (m1 (o + 4)) (m1 (o + 5)) (m1 (o + 6)) (m1 (o + 7)) (m1 (o + 8)) (m1 (o + 9)) (m o 9 + 1) (m o 10) := by
        have h1' : zci (m1 (o + 1)) (m1 (o + 2)) (m1 (o + 3)) (m1 (o + 4)) (m1 (o + 5)) (m1 (o + 6)) (m1 (o + 7)) (m1 (o + 8)) (m1 (o + 9)) (m o 9) (m o 10) := by
          have := h1
          unfold zCI at this
          rw [e0] at this
          exact this
        exact zci_old h1' hn (by rw [ea]; exact har) v0 v1 hL' hs'
      refine ⟨m' (o + 3) v, m', rfl, ?_, p9, by rw [pk 1 (by omega), e1], ?_, ?_, ?_⟩
      · unfold zCI
        rw [p9, p10, p2, pk 1 (by omega), pk 3 (by omega), pk 4 (by omega), pk 5 (by omega), pk 6 (by omega), pk 7 (by omega), pk 8 (by omega), pk 9 (by omega)]
        exact hh
      · rw [pk 1 (by omega), pk 3 (by omega)]
        exact hL'
      · intro c hc
        rw [hm', zup_o _ _ _ (by omega), zup_o _ _ _ (by omega)]
        exact hfr1 c hc
      · refine Or.inr ⟨p10, fun hN => ?_⟩
        rw [pk 1 (by omega), pk 3 (by omega)] at hN
        have hz := zNd_Z h1.2.2.1 v0 (by rw [e0]; exact v1)
        rw [e0] at hz
        exact hN _ (by omega) (by omega) hs'
  obtain ⟨r, m', k1, k2⟩ := key
  refine ⟨r, m', ?_, k2⟩
  unfold FX1_add
  rw [zwr_p ⟨hn0, by omega⟩, zjn_p, ← hm1]
  rcases hu0 with ⟨c1, rfl⟩ | ⟨c1, rfl⟩
  · rw [if_pos (by rw [e0, c1])]
    exact k1
  · rw [if_neg (by rw [e0]; exact zne_i ⟨by omega, by omega, by omega, by omega, c1⟩), zrd_p ⟨by rw [e0]; omega, by rw [e0]; omega⟩, e0]
    exact k1
theorem rem_spec {m : zM} {o : Nat} (h : zCI m o) (hn : 1 ≤ m o 9) : ∃ m', FX1_removeLast o m = some m' ∧ zCI m' o ∧ m' o 9 = m o 9 - 1 ∧ m' (o + 1) = m (o + 1) ∧ zfr o m m' := by
  have hN := zci_N h
  have h' : zci (m (o + 1)) (m (o + 2)) (m (o + 3)) (m (o + 4)) (m (o + 5)) (m (o + 6)) (m (o + 7)) (m (o + 8)) (m (o + 9)) (m o 9 - 1 + 1) (m o 10) := by
    rw [show m o 9 - 1 + 1 = m o 9 by omega]; exact h
  obtain ⟨a1, a2, a3, a4, a5⟩ := h.2.2.2.2.1 (m o 9 - 1) (by omega) (by omega)
  have hz := zNd_Z h.2.2.1 a1 a2
  have hx := h.2.1 (m o 9 - 1) (by omega) (by omega)
  unfold FX1_removeLast
  rw [zpf_p]
  obtain ⟨m1, hm1⟩ : ∃ m1, m1 = zup m o 9 (m o 9 - 1) := ⟨_, rfl⟩
  rw [← hm1]
  have e9 : m1 o 9 = m o 9 - 1 := by rw [hm1, zup_c, zuf_e]
  have e10 : m1 o 10 = m o 10 := by rw [hm1, zup_c, zuf_d _ _ (by omega)]
  have ek : ∀ k, 0 < k → m1 (o + k) = m (o + k) := fun k hk => by rw [hm1, zup_o _ _ _ (by omega)]
  have hf1 : zfr o m m1 := by rw [hm1]; exact zfr_up (by omega) (by omega)
  rw [e9, zrd_p ⟨by omega, by omega⟩, ek 2 (by omega), zrd_p ⟨by omega, by omega⟩, ek 7 (by omega)]
  by_cases c : m (o + 7) (m (o + 2) (m o 9 - 1)) = m o 9 - 1
  · obtain ⟨b1, b2, b3, b4⟩ := zci_popB h' (by omega) c
    rw [if_pos (by rw [c]), zrd_p ⟨by omega, by omega⟩, ek 6 (by omega), zrd_p ⟨by omega, by omega⟩, ek 1 (by omega), zcl_p (show FX1_edge _ _ = some _ from rfl), zwr_p ⟨by omega, by omega⟩, zpf_p]
    obtain ⟨m', hm'⟩ : ∃ m', m' = zup (zup m1 (o + 9) (m (o + 6) (m (o + 2) (m o 9 - 1)) * 6 + m (o + 1) (m o 9 - 1) - 97) (-1)) o 10 (zup m1 (o + 9) (m (o + 6) (m (o + 2) (m o 9 - 1)) * 6 + m (o + 1) (m o 9 - 1) - 97) (-1) o 10 - 1) := ⟨_, rfl⟩
    rw [← hm']
    have k0 : zup m1 (o + 9) (m (o + 6) (m (o + 2) (m o 9 - 1)) * 6 + m (o + 1) (m o 9 - 1) - 97) (-1) o = m1 o := zup_o _ _ _ (by omega)
    have p9 : m' o 9 = m o 9 - 1 := by rw [hm', zup_c, zuf_d _ _ (by omega), k0, e9]
    have p10 : m' o 10 = m o 10 - 1 := by rw [hm', zup_c, zuf_e, k0, e10]
    have pk : ∀ k, 0 < k → k ≠ 9 → m' (o + k) = m (o + k) := fun k hk hk2 => by rw [hm', zup_o _ _ _ (by omega), zup_o _ _ _ (by omega), ek k hk]
    have pw : m' (o + 9) = zuf (m (o + 9)) (m (o + 6) (m (o + 2) (m o 9 - 1)) * 6 + (m (o + 1) (m o 9 - 1) - 97)) (-1) := by
      rw [hm', zup_o _ _ _ (by omega), zup_c, ek 9 (by omega), show m (o + 6) (m (o + 2) (m o 9 - 1)) * 6 + m (o + 1) (m o 9 - 1) - 97 = m (o + 6) (m (o + 2) (m o 9 - 1)) * 6 + (m (o + 1) (m o 9 - 1) - 97) by omega]
    refine ⟨m', rfl, ?_, p9, pk 1 (by omega) (by omega), fun c hc => ?_⟩
    · unfold zCI
      rw [p9, p10, pw, pk 1 (by omega) (by omega), pk 2 (by omega) (by omega), pk 3 (by omega) (by omega), pk 4 (by omega) (by omega), pk 5 (by omega) (by omega), pk 6 (by omega) (by omega), pk 7 (by omega) (by omega), pk 8 (by omega) (by omega)]
      exact b1
    · rw [hm', zup_o _ _ _ (by omega), zup_o _ _ _ (by omega)]
      exact hf1 c hc
  · rw [if_neg (zne_i ⟨by omega, by omega, by omega, by omega, c⟩)]
    refine ⟨m1, rfl, ?_, e9, ek 1 (by omega), hf1⟩
    unfold zCI
    rw [e9, e10, ek 1 (by omega), ek 2 (by omega), ek 3 (by omega), ek 4 (by omega), ek 5 (by omega), ek 6 (by omega), ek 7 (by omega), ek 8 (by omega), ek 9 (by omega)]
    exact zci_popA h' (by omega) c
theorem shorten_L {o : Nat} {k : Int} {K : Int → zM → Option zM} (hk : 0 ≤ k) : ∀ (r f : Nat) (i : Int) (m : zM), zCI m o → m o 9 = i → i = k + r → r < f → ∃ m', FX1_shorten_L5 o k K f i m = K k m' ∧ zCI m' o ∧ m' o 9 = k ∧ m' (o + 1) = m (o + 1) ∧ zfr o m m' := by
  intro r
  induction r with
  | zero =>
    intro f i m h hi hk2 hf
    obtain ⟨f, rfl⟩ : ∃ g, f = g + 1 := ⟨f - 1, by omega⟩
    have hb := h.1
    refine ⟨m, ?_, h, by omega, rfl, zfr_rf⟩
    show FX1_shorten_L5_B o k K _ i m = _
    unfold FX1_shorten_L5_B
    have : i = k := by omega
    subst this
    rw [if_neg (znlt_i (by omega))]
  | succ r ih =>
    intro f i m h hi hk2 hf
    obtain ⟨f, rfl⟩ : ∃ g, f = g + 1 := ⟨f - 1, by omega⟩
    have hb := h.1
    obtain ⟨m1, a1, a2, a3, a4, a5⟩ := rem_spec h (by omega)
    obtain ⟨m', b1, b2, b3, b4, b5⟩ := ih f (i + -1) m1 a2 (by omega) (by omega) (by omega)
    refine ⟨m', ?_, b2, b3, b4.trans a4, zfr_tr a5 b5⟩
    show FX1_shorten_L5_B o k K (FX1_shorten_L5 o k K f) i m = _
    unfold FX1_shorten_L5_B
    rw [if_pos (zlt_i (by omega)), zcl_p a1, b1]
theorem shorten_spec {m : zM} {o : Nat} {k : Int} (h : zCI m o) (hk : 0 ≤ k) (hk2 : k ≤ m o 9) : ∃ m', FX1_shorten o k m = some m' ∧ zCI m' o ∧ m' o 9 = k ∧ m' (o + 1) = m (o + 1) ∧ zfr o m m' := by
  have hb := h.1
  obtain ⟨m', a1, a2⟩ := shorten_L (K := fun _ m5_ => some m5_) hk (m o 9 - k).toNat zfu (m o 9) m h rfl (by omega) (by show _ < 4000; omega)
  exact ⟨m', a1, a2⟩
theorem load_L {o c n1 : Nat} {a2 a3 : Int} {K : Int → zM → Option zM} (hc : c < o ∨ o + 9 < c) : ∀ (r f : Nat) (i : Int) (m : zM), zCI m o → 0 ≤ i → i + r = a3 → a3 ≤ n1 → n1 ≤ 48 → m o 9 + r ≤ 48 → (∀ q, i ≤ q → q < a3 → 97 ≤ m c q ∧ m c q ≤ 102) → r < f →
    ∃ m', FX1_load_L8 o c n1 a2 a3 K f i m = K a3 m' ∧ zCI m' o ∧ m' o 9 = m o 9 + r ∧ (∀ q, 0 ≤ q → q < m o 9 → m' (o + 1) q = m (o + 1) q) ∧ (∀ q : Int, 0 ≤ q → q < r → m' (o + 1) (m o 9 + q) = m c (i + q)) ∧ zfr o m m' := by
  intro r
  induction r with
  | zero =>
    intro f i m h h0 h1 h2 h3 h4 h5 hf
    obtain ⟨f, rfl⟩ : ∃ g, f = g + 1 := ⟨f - 1, by omega⟩
    refine ⟨m, ?_, h, by omega, fun q _ _ => rfl, fun q q0 q1 => by omega, zfr_rf⟩
    show FX1_load_L8_B o c n1 a2 a3 K _ i m = _
    unfold FX1_load_L8_B
    have : i = a3 := by omega
    subst this
    rw [if_neg (znlt_i (by omega))]
  | succ r ih =>
    intro f i m h h0 h1 h2 h3 h4 h5 hf
    obtain ⟨f, rfl⟩ : ∃ g, f = g + 1 := ⟨f - 1, by omega⟩
    have hb := h.1
    obtain ⟨rr, m1, a1, a2', a3', a4, a5, a6, a7⟩ := add_spec h (a := m c i) (by omega) (h5 i (by omega) (by omega))
    have hmc : m1 c = m c := a6 c hc
    obtain ⟨m', b1, b2, b3, b4, b5, b6⟩ := ih f (i + 1) m1 a2' (by omega) (by omega) h2 h3 (by omega) (fun q q0 q1 => by rw [hmc]; exact h5 q (by omega) q1) (by omega)
    refine ⟨m', ?_, b2, by omega, fun q q0 q1 => ?_, fun q q0 q1 => ?_, zfr_tr a6 b6⟩
    · show FX1_load_L8_B o c n1 a2 a3 K (FX1_load_L8 o c n1 a2 a3 K f) i m = _
      unfold FX1_load_L8_B
      rw [if_pos (zlt_i (by omega)), zrd_p ⟨by omega, by omega⟩, zcl2_p a1, b1]
    · rw [b4 q q0 (by omega), a4, zuf_d _ _ (by omega)]
    · by_cases e : q = 0
      · subst e
        rw [show m o 9 + 0 = m o 9 by omega, show i + 0 = i by omega, b4 (m o 9) (by omega) (by omega), a4, zuf_e]
      · have := b5 (q - 1) (by omega) (by omega)
        rw [a3', hmc, show m o 9 + 1 + (q - 1) = m o 9 + q by omega, show i + 1 + (q - 1) = i + q by omega] at this
        exact this
theorem load_spec {m : zM} {o c n1 : Nat} {i j : Int} (h : zCI m o) (hc : c < o ∨ o + 9 < c) (h0 : 0 ≤ i) (h1 : i ≤ j) (h2 : j ≤ n1) (h3 : n1 ≤ 48) (h5 : ∀ q, i ≤ q → q < j → 97 ≤ m c q ∧ m c q ≤ 102) :
    ∃ m', FX1_load o c n1 i j m = some m' ∧ zCI m' o ∧ m' o 9 = j - i ∧ (∀ q, 0 ≤ q → q < j - i → m' (o + 1) q = m c (i + q)) ∧ zfr o m m' := by
  obtain ⟨m1, a1, a2, a3, a4, a5⟩ := shorten_spec h (Int.le_refl 0) h.1.1
  have hmc : m1 c = m c := a5 c hc
  obtain ⟨m', b1, b2, b3, b4, b5, b6⟩ := load_L (n1 := n1) (a2 := i) (a3 := j) (K := fun _ m5_ => some m5_) hc (j - i).toNat zfu i m1 a2 h0 (by omega) h2 h3 (by omega) (fun q q0 q1 => by rw [hmc]; exact h5 q q0 q1) (by show _ < 4000; omega)
  refine ⟨m', ?_, b2, by omega, fun q q0 q1 => ?_, zfr_tr a5 b6⟩
  · unfold FX1_load
    rw [zcl_p a1, b1]
  · have := b5 q q0 (by omega)
    rw [a3, hmc, show 0 + q = q by omega] at this
    exact this
theorem lengthen_L {o : Nat} {a1 : Int} {K : Int → zM → Option zM} : ∀ (r f : Nat) (i : Int) (m : zM), zCI m o → 0 ≤ i → i + r = a1 → a1 ≤ 100 → m o 9 + r ≤ 48 → r < f →
    ∃ m', FX1_lengthen_L2 o a1 K f i m = K a1 m' ∧ zCI m' o ∧ m' o 9 = m o 9 + r ∧ (∀ q, 0 ≤ q → q < m o 9 → m' (o + 1) q = m (o + 1) q) ∧ (∀ q : Int, 0 ≤ q → q < r → m' (o + 1) (m o 9 + q) = 97) ∧ zfr o m m' := by
  intro r
  induction r with
  | zero =>
    intro f i m h h0 h1 h2 h4 hf
    obtain ⟨f, rfl⟩ : ∃ g, f = g + 1 := ⟨f - 1, by omega⟩
    refine ⟨m, ?_, h, by omega, fun q _ _ => rfl, fun q q0 q1 => by omega, zfr_rf⟩
    show FX1_lengthen_L2_B o a1 K _ i m = _
    unfold FX1_lengthen_L2_B
    have : i = a1 := by omega
    subst this
    rw [if_neg (znlt_i (by omega))]
  | succ r ih =>
    intro f i m h h0 h1 h2 h4 hf
    obtain ⟨f, rfl⟩ : ∃ g, f = g + 1 := ⟨f - 1, by omega⟩
    have hb := h.1
    obtain ⟨rr, m1, a1', a2', a3', a4, a5, a6, a7⟩ := add_spec h (a := 97) (by omega) (by omega)
    obtain ⟨m', b1, b2, b3, b4, b5, b6⟩ := ih f (i + 1) m1 a2' (by omega) (by omega) h2 (by omega) (by omega)
    refine ⟨m', ?_, b2, by omega, fun q q0 q1 => ?_, fun q q0 q1 => ?_, zfr_tr a6 b6⟩
    · show FX1_lengthen_L2_B o a1 K (FX1_lengthen_L2 o a1 K f) i m = _
      unfold FX1_lengthen_L2_B
      rw [if_pos (zlt_i (by omega)), zcl2_p a1', b1]
    · rw [b4 q q0 (by omega), a4, zuf_d _ _ (by omega)]
    · by_cases e : q = 0
      · subst e
        rw [show m o 9 + 0 = m o 9 by omega, b4 (m o 9) (by omega) (by omega), a4, zuf_e]
      · have := b5 (q - 1) (by omega) (by omega)
        rw [a3', show m o 9 + 1 + (q - 1) = m o 9 + q by omega] at this
        exact this
theorem lengthen_spec {m : zM} {o : Nat} {k : Int} (h : zCI m o) (hk : 0 ≤ k) (h4 : m o 9 + k ≤ 48) : ∃ m', FX1_lengthen o k m = some m' ∧ zCI m' o ∧ m' o 9 = m o 9 + k ∧ (∀ q, 0 ≤ q → q < m o 9 → m' (o + 1) q = m (o + 1) q) ∧ (∀ q, 0 ≤ q → q < k → m' (o + 1) (m o 9 + q) = 97) ∧ zfr o m m' := by
  have hb := h.1
  obtain ⟨m', b1, b2, b3, b4, b5, b6⟩ := lengthen_L (a1 := k) (K := fun _ m5_ => some m5_) k.toNat zfu 0 m h (by omega) (by omega) (by omega) (by omega) (by show _ < 4000; omega)
  exact ⟨m', b1, b2, by omega, b4, fun q q0 q1 => b5 q q0 (by omega), b6⟩
theorem replace_L {o : Nat} {a1 a2 k3 : Int} {K : Int → zM → Option zM} : ∀ (r f : Nat) (i : Int) (m : zM), zCI m o → m o 9 = i → i + r = k3 → k3 ≤ 48 → (∀ q, i ≤ q → q < k3 → 97 ≤ m (o + 1) q ∧ m (o + 1) q ≤ 102) → r < f →
    ∃ m', FX1_replace_L21 o a1 a2 k3 K f i m = K k3 m' ∧ zCI m' o ∧ m' o 9 = k3 ∧ m' (o + 1) = m (o + 1) ∧ zfr o m m' := by
  intro r
  induction r with
  | zero =>
    intro f i m h h0 h1 h2 h5 hf
    obtain ⟨f, rfl⟩ : ∃ g, f = g + 1 := ⟨f - 1, by omega⟩
    have hb := h.1
    refine ⟨m, ?_, h, by omega, rfl, zfr_rf⟩
    show FX1_replace_L21_B o a1 a2 k3 K _ i m = _
    unfold FX1_replace_L21_B
    have : i = k3 := by omega
    subst this
    rw [if_neg (znlt_i (by omega))]
  | succ r ih =>
    intro f i m h h0 h1 h2 h5 hf
    obtain ⟨f, rfl⟩ : ∃ g, f = g + 1 := ⟨f - 1, by omega⟩
    have hb := h.1
    obtain ⟨rr, m1, a1', a2', a3', a4, a5, a6, a7⟩ := add_spec h (a := m (o + 1) i) (by omega) (h5 i (by omega) (by omega))
    rw [h0, zuf_self] at a4
    obtain ⟨m', b1, b2, b3, b4, b5⟩ := ih f (i + 1) m1 a2' (by omega) (by omega) h2 (fun q q0 q1 => by rw [a4]; exact h5 q (by omega) q1) (by omega)
    refine ⟨m', ?_, b2, b3, b4.trans a4, zfr_tr a6 b5⟩
    show FX1_replace_L21_B o a1 a2 k3 K (FX1_replace_L21 o a1 a2 k3 K f) i m = _
    unfold FX1_replace_L21_B
    rw [if_pos (zlt_i (by omega)), zrd_p ⟨by omega, by omega⟩, zcl2_p a1', b1]
theorem replace_spec {m : zM} {o : Nat} {p a : Int} (h : zCI m o) (hp : 0 ≤ p) (hp2 : p < m o 9) (har : 97 ≤ a ∧ a ≤ 102) : ∃ m', FX1_replace o p a m = some m' ∧ zCI m' o ∧ m' o 9 = m o 9 ∧ m' (o + 1) = zuf (m (o + 1)) p a ∧ zfr o m m' := by
  have hb := h.1
  obtain ⟨m1, a1, a2, a3, a4, a5⟩ := shorten_spec h hp (by omega)
  obtain ⟨rr, m2, b1, b2, b3, b4, b5, b6, b7⟩ := add_spec a2 (a := a) (by omega) har
  rw [a3, a4] at b4
  obtain ⟨m', c1, c2, c3, c4, c5⟩ := replace_L (o := o) (a1 := p) (a2 := a) (k3 := m o 9) (K := fun _ m5_ => some m5_) (m o 9 - (p + 1)).toNat zfu (p + 1) m2 b2 (by omega) (by omega) (by omega) (fun q q0 q1 => by rw [b4, zuf_d _ _ (by omega)]; exact h.2.1 q (by omega) q1) (by show _ < 4000; omega)
  refine ⟨m', ?_, c2, c3, c4.trans b4, zfr_tr (zfr_tr a5 b6) c5⟩
  unfold FX1_replace
  rw [zcl_p a1, zcl2_p b1, c1]
