/-! cuts, evens -/
def zPiece (x : Int → Int) (ev s w : Int) : Prop := zp x s w ∧ (ev = 0 ∨ w % 2 = 0)
/-- the class's row of fewest pieces, when the ends behind e, and at e the pieces longer than b, have been looked at -/
def zDp (x : Int → Int) (ev n : Int) (G L : Int → Int) (e b : Int) : Prop := G n = 0 ∧ ∀ s, 0 ≤ s → s < n →
  (G s = 1000 ∧ ∀ w, 1 ≤ w → s + w ≤ n → (e < s + w ∨ (s + w = e ∧ b < w)) → zPiece x ev s w → G (s + w) = 1000) ∨
  (1 ≤ G s ∧ G s ≤ n - s ∧ 1 ≤ L s ∧ s + L s ≤ n ∧ e ≤ s + L s ∧ zPiece x ev s (L s) ∧ G (s + L s) + 1 = G s ∧ ∀ w, 1 ≤ w → s + w ≤ n → (e < s + w ∨ (s + w = e ∧ b < w)) → zPiece x ev s w → G s ≤ G (s + w) + 1 ∧ (G (s + w) + 1 = G s → L s ≤ w))
section DP
variable {x : Int → Int} {ev n e b b' : Int} {G L : Int → Int}
/-- no piece in between: as far on -/
theorem zDp_b (h : zDp x ev n G L e b) (hb : ∀ s w, 0 ≤ s → s + w = e → b' < w → w ≤ b → ¬ zPiece x ev s w) : zDp x ev n G L e b' := by
  refine ⟨h.1, fun s s0 s1 => ?_⟩
  have hc : ∀ w, (e < s + w ∨ (s + w = e ∧ b' < w)) → zPiece x ev s w → (e < s + w ∨ (s + w = e ∧ b < w)) := fun w hw hp => by
    rcases hw with hw | ⟨hw, hw2⟩
    · exact Or.inl hw
    · by_cases c : b < w
      · exact Or.inr ⟨hw, c⟩
      · exact absurd hp (hb s w s0 hw hw2 (by omega))
  rcases h.2 s s0 s1 with ⟨a1, a2⟩ | ⟨a1, a2, a3, a4, a5, a6, a7, a8⟩
  · exact Or.inl ⟨a1, fun w w0 w1 w2 w3 => a2 w w0 w1 (hc w w2 w3) w3⟩
  · exact Or.inr ⟨a1, a2, a3, a4, a5, a6, a7, fun w w0 w1 w2 w3 => a8 w w0 w1 (hc w w2 w3) w3⟩
theorem zDp_e (h : zDp x ev n G L e 0) (hn : n ≤ 48) : zDp x ev n G L (e - 1) 48 := by
  refine ⟨h.1, fun s s0 s1 => ?_⟩
  have hc : ∀ w, 1 ≤ w → s + w ≤ n → (e - 1 < s + w ∨ (s + w = e - 1 ∧ 48 < w)) → (e < s + w ∨ (s + w = e ∧ 0 < w)) := fun w w0 w1 hw => by omega
  rcases h.2 s s0 s1 with ⟨a1, a2⟩ | ⟨a1, a2, a3, a4, a5, a6, a7, a8⟩
  · exact Or.inl ⟨a1, fun w w0 w1 w2 w3 => a2 w w0 w1 (hc w w0 w1 w2) w3⟩
  · exact Or.inr ⟨a1, a2, a3, a4, by omega, a6, a7, fun w w0 w1 w2 w3 => a8 w w0 w1 (hc w w0 w1 w2) w3⟩
/-- an end that nothing reaches -/
theorem zDp_far (h : zDp x ev n G L e b) (hn : n ≤ 48) (hg : G e = 1000) : zDp x ev n G L e 0 := by
  refine ⟨h.1, fun s s0 s1 => ?_⟩
  rcases h.2 s s0 s1 with ⟨a1, a2⟩ | ⟨a1, a2, a3, a4, a5, a6, a7, a8⟩
  · refine Or.inl ⟨a1, fun w w0 w1 w2 w3 => ?_⟩
    by_cases c : s + w = e
    · rw [c]; exact hg
    · exact a2 w w0 w1 (by omega) w3
  · refine Or.inr ⟨a1, a2, a3, a4, a5, a6, a7, fun w w0 w1 w2 w3 => ?_⟩
    by_cases c : s + w = e
    · rw [c, hg]; exact ⟨by omega, fun q => by omega⟩
    · exact a8 w w0 w1 (by omega) w3
/-- a piece that is better, or as good -/
theorem zDp_up {l : Int} (h : zDp x ev n G L e l) (hl : 1 ≤ l) (h0 : 0 ≤ e - l) (he : e ≤ n) (hg : 0 ≤ G e ∧ G e ≤ n - e) (hp : zPiece x ev (e - l) l) (hle : G e + 1 ≤ G (e - l)) : zDp x ev n (zuf G (e - l) (G e + 1)) (zuf L (e - l) l) e (l - 1) := by
  have ne : ∀ q, e ≤ q → zuf G (e - l) (G e + 1) q = G q := fun q hq => zuf_d _ _ (by omega)
  refine ⟨by rw [ne n he]; exact h.1, fun s s0 s1 => ?_⟩
  have hc : ∀ w, s ≠ e - l → (e < s + w ∨ (s + w = e ∧ l - 1 < w)) → (e < s + w ∨ (s + w = e ∧ l < w)) := fun w hs hw => by omega
  by_cases c : s = e - l
  · subst c
    refine Or.inr ?_
    rw [zuf_e, zuf_e, ne _ (by omega)]
    refine ⟨by omega, by omega, hl, by omega, by omega, hp, by rw [show e - l + l = e by omega], fun w w0 w1 w2 w3 => ?_⟩
    rw [ne _ (by omega)]
    by_cases c2 : w = l
    · subst c2
      rw [show e - w + w = e by omega]
      exact ⟨by omega, fun _ => by omega⟩
    · refine ⟨?_, fun _ => by omega⟩
      rcases h.2 (e - l) h0 s1 with ⟨a1, a2⟩ | ⟨a1, a2, a3, a4, a5, a6, a7, a8⟩
      · rw [a2 w w0 w1 (by omega) w3]; omega
      · have := (a8 w w0 w1 (by omega) w3).1; omega
  · rw [zuf_d _ _ c, zuf_d _ _ c]
    rcases h.2 s s0 s1 with ⟨a1, a2⟩ | ⟨a1, a2, a3, a4, a5, a6, a7, a8⟩
    · exact Or.inl ⟨a1, fun w w0 w1 w2 w3 => by rw [ne _ (by omega)]; exact a2 w w0 w1 (hc w c w2) w3⟩
    · exact Or.inr ⟨a1, a2, a3, a4, a5, a6, by rw [ne _ a5]; exact a7, fun w w0 w1 w2 w3 => by rw [ne _ (by omega)]; exact a8 w w0 w1 (hc w c w2) w3⟩
/-- a piece that is no better, or doesn't fit -/
theorem zDp_no {l : Int} (h : zDp x ev n G L e l) (hl : 1 ≤ l) (h0 : 0 ≤ e - l) (he : e ≤ n) (hg : 0 ≤ G e ∧ G e ≤ n - e) (hn : n ≤ 48) (hno : ¬ zPiece x ev (e - l) l ∨ G (e - l) < G e + 1) : zDp x ev n G L e (l - 1) := by
  refine ⟨h.1, fun s s0 s1 => ?_⟩
  rcases h.2 s s0 s1 with ⟨a1, a2⟩ | ⟨a1, a2, a3, a4, a5, a6, a7, a8⟩
  · refine Or.inl ⟨a1, fun w w0 w1 w2 w3 => ?_⟩
    by_cases c : s + w = e ∧ w = l
    · obtain ⟨c1, c2⟩ := c
      subst c2
      have e1 : s = e - w := by omega
      subst e1
      rcases hno with hno | hno
      · exact absurd w3 hno
      · omega
    · exact a2 w w0 w1 (by omega) w3
  · refine Or.inr ⟨a1, a2, a3, a4, a5, a6, a7, fun w w0 w1 w2 w3 => ?_⟩
    by_cases c : s + w = e ∧ w = l
    · obtain ⟨c1, c2⟩ := c
      subst c2
      have e1 : s = e - w := by omega
      subst e1
      rcases hno with hno | hno
      · exact absurd w3 hno
      · rw [c1]; exact ⟨by omega, fun q => by omega⟩
    · exact a8 w w0 w1 (by omega) w3
theorem zDp_g (h : zDp x ev n G L e b) (h0 : 0 ≤ e) (h1 : e ≤ n) (hg : G e < 1000) : 0 ≤ G e ∧ G e ≤ n - e := by
  by_cases c : e = n
  · rw [c, h.1]; omega
  · rcases h.2 e h0 (by omega) with a | a <;> omega
end DP
/-- the reference's row of fewest pieces, from lo on -/
def zFr (x : Int → Int) (ev n : Int) (F : Int → Int) (lo : Int) : Prop := F n = 0 ∧ ∀ s, lo ≤ s → s < n →
  (F s = 99 ∧ ∀ w, 1 ≤ w → s + w ≤ n → zPiece x ev s w → F (s + w) = 99) ∨
  (1 ≤ F s ∧ F s ≤ n - s ∧ (∃ w, 1 ≤ w ∧ s + w ≤ n ∧ zPiece x ev s w ∧ F (s + w) + 1 = F s) ∧ ∀ w, 1 ≤ w → s + w ≤ n → zPiece x ev s w → F s ≤ F (s + w) + 1)
theorem zDF {x : Int → Int} {ev n : Int} {G L F : Int → Int} (hn : n ≤ 48) (h : zDp x ev n G L 0 48) (hf : zFr x ev n F 0) : ∀ (r : Nat) (s : Int), 0 ≤ s → s + r = n → (G s = 1000 ∧ F s = 99) ∨ (G s = F s ∧ 0 ≤ G s ∧ G s ≤ 48) := by
  intro r
  induction r using Nat.strongRecOn with
  | _ r ih =>
    intro s s0 s1
    by_cases c : s = n
    · rw [c, h.1, hf.1]; omega
    · have ih' : ∀ w, 1 ≤ w → s + w ≤ n → (G (s + w) = 1000 ∧ F (s + w) = 99) ∨ (G (s + w) = F (s + w) ∧ 0 ≤ G (s + w) ∧ G (s + w) ≤ 48) := fun w w0 w1 => ih (n - (s + w)).toNat (by omega) (s + w) (by omega) (by omega)
      rcases h.2 s s0 (by omega) with ⟨a1, a2⟩ | ⟨a1, a2, a3, a4, a5, a6, a7, a8⟩
      · rcases hf.2 s s0 (by omega) with ⟨b1, b2⟩ | ⟨b1, b2, ⟨w, w0, w1, w2, w3⟩, b4⟩
        · exact Or.inl ⟨a1, b1⟩
        · have k1 := a2 w w0 w1 (by omega) w2
          have k2 := ih' w w0 w1
          omega
      · have k2 := ih' (L s) a3 a4
        rcases hf.2 s s0 (by omega) with ⟨b1, b2⟩ | ⟨b1, b2, ⟨w, w0, w1, w2, w3⟩, b4⟩
        · have := b2 (L s) a3 a4 a6; omega
        · have k3 := b4 (L s) a3 a4 a6
          have k4 := (a8 w w0 w1 (by omega) w2).1
          have k5 := ih' w w0 w1
          omega
section CU
variable {mC mM : zM}
/-- all but the two rows of Cutting -/
def zcF (m m' : zM) : Prop := ∀ c : Nat, c ≠ 26 → c ≠ 27 → m' c = m c
theorem reach5 {ev n e : Int} {x : Int → Int} (h : zci x (mC 3) (mC 4) (mC 5) (mC 6) (mC 7) (mC 8) (mC 9) (mC 10) (mC 1 9) (mC 1 10)) (hev : ev = 0 ∨ ev = 1) (hn : n ≤ mC 1 9) (he : 1 ≤ e) (he2 : e ≤ n) {m : zM} (hm : zcF mC m) (hd : zDp x ev n (m 26) (m 27) e 48) (hg : m 26 e < 1000) : ∃ m', FX2_reachFrom e 1 ev m = some m' ∧ zcF mC m' ∧ zDp x ev n (m' 26) (m' 27) e 0 := by
  have hN := zci_N h
  obtain ⟨t1, t2, t3, t4, t5⟩ := h.2.2.2.2.1 (e - 1) (by omega) (by omega)
  obtain ⟨z1, z2, z3, z4⟩ := zNd_Z h.2.2.1 t1 t2
  have t32 := t3.2.1
  have hdb := dep_b h 48 (mC 3 (e - 1)) t1 t2 (by omega)
  have g0 := zDp_g hd (by omega) he2 hg
  unfold FX2_reachFrom
  have e3 : m (1 + 2) (e - 1) = mC 3 (e - 1) := by rw [hm (1 + 2) (by omega) (by omega)]
  rw [zrd_p ⟨by omega, by omega⟩, zrd_p ⟨by omega, by omega⟩, e3, zrd_p ⟨by omega, by omega⟩, hm (1 + 8) (by omega) (by omega)]
  refine zlom2 (FX2_reachFrom_L29 e 1 ev (m 26 e + 1) (fun _ _ m29_ => some m29_)) (fun r u left m1 => left = r ∧ (u = 48 ∨ (0 ≤ u ∧ u < mC 1 10 ∧ zAt x (mC 4) (mC 8) u (e - 1))) ∧ mC 9 u = r ∧ zcF mC m1 ∧ m1 26 e = m 26 e ∧ zDp x ev n (m1 26) (m1 27) e (mC 4 u)) (fun z => ∃ m', z = some m' ∧ zcF mC m' ∧ zDp x ev n (m' 26) (m' 27) e 0) ?_ ?_ (mC 9 (mC 3 (e - 1))).toNat zfu (mC 3 (e - 1)) _ m ⟨?_, Or.inr ⟨t1, t2, t32, t4⟩, ?_, hm, rfl, ?_⟩ (by show _ < 4000; omega)
  · intro f r u left m1 ⟨i1, i2, i3, i4, i5, i6⟩
    have r7 : mC 9 48 = 0 := h.2.2.2.1.2.2.2.2.2.2
    rcases i2 with rfl | ⟨u0, u1, u2⟩
    · omega
    · obtain ⟨y1, y2, y3, y4⟩ := zNd_Z h.2.2.1 u0 u1
      have u21 := u2.1
      have hdep := h.2.2.2.2.2.2.2.1 u u0 u1
      have hdb2 := dep_b h 48 u u0 u1 (by omega)
      have hpal := zAt_pal h u0 u1 u2
      have hpc : ∀ w, w = mC 4 u → (zPiece x ev (e - w) w ↔ (ev = 0 ∨ w % 2 = 0)) := fun w hw => by
        subst hw
        exact ⟨fun q => q.2, fun q => ⟨zp_to hpal (by omega) rfl, q⟩⟩
      -- after the piece: on to the next shorter one
      have hnext : ∀ m2 : zM, zcF mC m2 → m2 26 e = m 26 e → zDp x ev n (m2 26) (m2 27) e (mC 4 u - 1) → (left + -1 = r ∧ (mC 5 u = 48 ∨ (0 ≤ mC 5 u ∧ mC 5 u < mC 1 10 ∧ zAt x (mC 4) (mC 8) (mC 5 u) (e - 1))) ∧ mC 9 (mC 5 u) = r ∧ zcF mC m2 ∧ m2 26 e = m 26 e ∧ zDp x ev n (m2 26) (m2 27) e (mC 4 (mC 5 u))) := fun m2 g1 g2 g3 => by
        refine ⟨by omega, ?_, by omega, g1, g2, ?_⟩
        · rcases zci_at h (p := e - 1) (by omega) (by omega) u0 u1 u2 with ⟨q1, q2⟩ | ⟨q1, q2, q3, q4, q5⟩
          · exact Or.inl q1
          · exact Or.inr ⟨q1, q2, q3⟩
        · refine zDp_b g3 (fun s w s0 s1 w0 w1 hp => ?_)
          rcases zci_at h (p := e - 1) (by omega) (by omega) u0 u1 u2 with ⟨q1, q2⟩ | ⟨q1, q2, q3, q4, q5⟩
          · have r0 : mC 4 48 = 0 := h.2.2.2.1.1
            rw [q1, r0] at w0
            omega
          · exact q5 w w0 (by omega) (zp_to hp.1 (by omega) rfl)
      have hlr : 0 ≤ mC 5 u ∧ mC 5 u < 50 := by
        rcases zci_at h (p := e - 1) (by omega) (by omega) u0 u1 u2 with ⟨q1, q2⟩ | ⟨q1, q2, -⟩ <;> omega
      have x4 : m1 (1 + 3) u = mC 4 u := by rw [i4 (1 + 3) (by omega) (by omega)]
      have x5 : m1 (1 + 4) u = mC 5 u := by rw [i4 (1 + 4) (by omega) (by omega)]
      have hs0 : 0 ≤ m1 26 (e - mC 4 u) ∧ m1 26 (e - mC 4 u) ≤ 1000 := by
        rcases i6.2 (e - mC 4 u) (by omega) (by omega) with a | a <;> omega
      have nev : ev ≠ 0 → ¬ zI ev = zI 0 := fun c => zne_i (by omega)
      have gd : zdg (mC 4 u) 2 := ⟨by omega, by omega, by omega, by omega⟩
      have nod : mC 4 u % 2 ≠ 0 → ¬ zI (mC 4 u % 2) = zI 0 := fun c => zne_i (by omega)
      have u50 : 0 ≤ u ∧ u < 50 := by omega
      have hNo := fun q : ev ≠ 0 ∧ mC 4 u % 2 ≠ 0 => hnext m1 i4 i5 (zDp_no i6 y1 (by omega) he2 (by omega) (by omega) (Or.inl (fun w => by have := (hpc _ rfl).mp w; omega)))
      have h0left : zI 0 < zI left := zlt_i (by omega)
      refine Or.inr ?_
      -- the two cases
      have hyes : (ev = 0 ∨ mC 4 u % 2 = 0) → ∃ u' left' m', (if zI 1 = zI 0 then (zrd m1 (1 + 4) u 50 fun x5 => FX2_reachFrom_L29 e 1 ev (m 26 e + 1) (fun _ _ m29_ => some m29_) f x5 (left + -1) m1) else (zrd m1 26 (e - mC 4 u) 49 fun x6 => if zI x6 < zI (m 26 e + 1) then (zrd m1 (1 + 4) u 50 fun x7 => FX2_reachFrom_L29 e 1 ev (m 26 e + 1) (fun _ _ m29_ => some m29_) f x7 (left + -1) m1) else (zwr m1 26 (e - mC 4 u) (m 26 e + 1) 49 fun m8 => zwr m8 27 (e - mC 4 u) (mC 4 u) 49 fun m9 => zrd m9 (1 + 4) u 50 fun x10 => FX2_reachFrom_L29 e 1 ev (m 26 e + 1) (fun _ _ m29_ => some m29_) f x10 (left + -1) m9))) = FX2_reachFrom_L29 e 1 ev (m 26 e + 1) (fun _ _ m29_ => some m29_) f u' left' m' ∧ (left' = r ∧ (u' = 48 ∨ (0 ≤ u' ∧ u' < mC 1 10 ∧ zAt x (mC 4) (mC 8) u' (e - 1))) ∧ mC 9 u' = r ∧ zcF mC m' ∧ m' 26 e = m 26 e ∧ zDp x ev n (m' 26) (m' 27) e (mC 4 u')) := fun hy => by
        rw [if_neg zI_ne10, zrd_p ⟨by omega, by omega⟩]
        by_cases c : m1 26 (e - mC 4 u) < m 26 e + 1
        · rw [if_pos (zlt_i (by omega)), zrd_p ⟨by omega, by omega⟩, x5]
          exact ⟨_, _, _, rfl, hnext m1 i4 i5 (zDp_no i6 y1 (by omega) he2 (by omega) (by omega) (Or.inr (by omega)))⟩
        · rw [if_neg (znlt_i (by omega)), zwr_p ⟨by omega, by omega⟩, zwr_p ⟨by omega, by omega⟩, zrd_p ⟨by omega, by omega⟩, zup_o _ _ _ (show 1 + 4 ≠ 27 by omega), zup_o _ _ _ (show 1 + 4 ≠ 26 by omega), x5]
          refine ⟨_, _, _, rfl, hnext _ (fun c c1 c2 => by rw [zup_o _ _ _ c2, zup_o _ _ _ c1, i4 c c1 c2]) ?_ ?_⟩
          · rw [zup_o _ _ _ (by omega), zup_c, zuf_d _ _ (by omega), i5]
          · rw [zup_o _ _ _ (show (26 : Nat) ≠ 27 by omega), zup_c, zup_c, zup_o _ _ _ (show (27 : Nat) ≠ 26 by omega), ← i5]
            exact zDp_up i6 y1 (by omega) he2 (by omega) ((hpc _ rfl).mpr hy) (by omega)
      rw [FX2_reachFrom_L29_s]
      unfold FX2_reachFrom_L29_B
      rw [if_pos h0left, zrd_p u50, x4, zjn_p]
      dsimp only
      by_cases c : ev = 0
      · rw [if_pos (by rw [c])]
        exact hyes (Or.inl c)
      · rw [if_neg (nev c), zgd_p gd]
        by_cases c2 : mC 4 u % 2 = 0
        · rw [if_pos (by rw [c2])]
          exact hyes (Or.inr c2)
        · rw [if_neg (nod c2), if_pos rfl, zrd_p u50, x5]
          exact ⟨_, _, _, rfl, hNo ⟨c, c2⟩⟩
  · intro f u left m1 ⟨i1, i2, i3, i4, i5, i6⟩
    rw [FX2_reachFrom_L29_s]
    unfold FX2_reachFrom_L29_B
    rw [if_neg (znlt_i (by omega))]
    refine ⟨m1, rfl, i4, ?_⟩
    rcases i2 with rfl | ⟨u0, u1, u2⟩
    · have r0 : mC 4 48 = 0 := h.2.2.2.1.1
      rw [r0] at i6
      exact i6
    · have := dep_b h 48 u u0 u1 (by have := zNd_Z h.2.2.1 u0 u1; omega)
      omega
  · show mC 9 (mC 3 (e - 1)) = _
    omega
  · omega
  · refine zDp_b hd (fun s w s0 s1 w0 w1 hp => t3.2.2.2 w w0 (by omega) (zp_to hp.1 (by omega) rfl))
theorem cut5 {ev n : Int} {x : Int → Int} (h : zci x (mC 3) (mC 4) (mC 5) (mC 6) (mC 7) (mC 8) (mC 9) (mC 10) (mC 1 9) (mC 1 10)) (hev : ev = 0 ∨ ev = 1) (hn0 : 0 ≤ n) (hn : n ≤ mC 1 9) : ∃ m', FX2_cut 1 n ev mC = some m' ∧ zcF mC m' ∧ zDp x ev n (m' 26) (m' 27) 0 48 := by
  have hN := zci_N h
  unfold FX2_cut
  rw [zcl_p (fill_eq 26 49 1000 mC (by omega)), zwr_p ⟨by omega, by omega⟩]
  refine zlom (FX2_cut_L20 1 n ev (fun _ m20_ => some m20_)) (fun r v m1 => v = r ∧ v ≤ n ∧ zcF mC m1 ∧ zDp x ev n (m1 26) (m1 27) v 48) (fun z => ∃ m', z = some m' ∧ zcF mC m' ∧ zDp x ev n (m' 26) (m' 27) 0 48) ?_ ?_ n.toNat zfu n _ ⟨by omega, by omega, fun c c1 c2 => by rw [zup_o _ _ _ c1, zuc_ne _ _ c1], ?_⟩ (by show _ < 4000; omega)
  · intro f r v m1 ⟨i1, i2, i3, i4⟩
    rw [FX2_cut_L20_s]
    unfold FX2_cut_L20_B
    have hb : 0 ≤ m1 26 v ∧ m1 26 v ≤ 1000 := by
      by_cases c : v = n
      · rw [c, i4.1]; omega
      · rcases i4.2 v (by omega) (by omega) with a | a <;> omega
    rw [if_pos (zlt_i (by omega)), zrd_p ⟨by omega, by omega⟩]
    by_cases c : m1 26 v < 1000
    · obtain ⟨m2, r1, r2, r3⟩ := reach5 h hev hn (e := v) (by omega) i2 i3 i4 c
      rw [if_pos (zlt_i (by omega)), zcl_p r1]
      exact Or.inr ⟨v + -1, m2, rfl, by omega, by omega, r2, zDp_e r3 (by omega)⟩
    · rw [if_neg (znlt_i (by omega))]
      exact Or.inr ⟨v + -1, m1, rfl, by omega, by omega, i3, zDp_e (zDp_far i4 (by omega) (by omega)) (by omega)⟩
  · intro f v m1 ⟨i1, i2, i3, i4⟩
    rw [FX2_cut_L20_s]
    unfold FX2_cut_L20_B
    rw [if_neg (znlt_i (by omega))]
    have e : v = 0 := by omega
    subst e
    exact ⟨m1, rfl, i3, i4⟩
  · refine ⟨by rw [zup_c, zuf_e], fun s s0 s1 => Or.inl ⟨?_, fun w w0 w1 w2 => by omega⟩⟩
    rw [zup_c, zuf_d _ _ (by omega), zuc_at, if_pos (by omega)]
/-- one place of the reference's row, when pieces shorter than u have been looked at -/
def zCn (x : Int → Int) (ev n v : Int) (F : Int → Int) (f u : Int) : Prop := (f = 99 ∧ ∀ w, 1 ≤ w → w < u → v + w ≤ n → zPiece x ev v w → F (v + w) = 99) ∨ (1 ≤ f ∧ f ≤ n - v ∧ (∃ w, 1 ≤ w ∧ v + w ≤ n ∧ zPiece x ev v w ∧ F (v + w) + 1 = f) ∧ ∀ w, 1 ≤ w → w < u → v + w ≤ n → zPiece x ev v w → f ≤ F (v + w) + 1)
/-- all but the reference's far -/
def zmF (m m' : zM) : Prop := ∀ c : Nat, c ≠ 12 → m' c = m c
theorem layCuts6 (hT : zTm mM) {n st ev : Int} (hst : (st = 1 ∧ ev = 0) ∨ (st = 2 ∧ ev = 1)) (hn0 : 0 ≤ n) (hn : n ≤ mM 0 0) : ∃ m', FX6_layCuts n st mM = some m' ∧ zmF mM m' ∧ zFr (zx mM) ev n (m' 12) 0 := by
  have hb := hT.2.1
  unfold FX6_layCuts
  rw [zwr_p ⟨by omega, by omega⟩]
  refine zlom (FX6_layCuts_L11 n st (fun _ m11_ => some m11_)) (fun r v m1 => v = r - 1 ∧ v ≤ n - 1 ∧ zmF mM m1 ∧ zFr (zx mM) ev n (m1 12) (v + 1)) (fun z => ∃ m', z = some m' ∧ zmF mM m' ∧ zFr (zx mM) ev n (m' 12) 0) ?_ ?_ n.toNat zfu (n - 1) _ ⟨by omega, by omega, fun c c1 => zup_o _ _ _ c1, by rw [zup_c, zuf_e], fun s s0 s1 => by omega⟩ (by show _ < 4000; omega)
  · intro f r v m1 ⟨i1, i2, i3, i4⟩
    rw [FX6_layCuts_L11_s]
    unfold FX6_layCuts_L11_B
    rw [if_neg (znlt_i (by omega)), zwr_p ⟨by omega, by omega⟩]
    obtain ⟨m2, hm2⟩ : ∃ q, q = zup m1 12 v 99 := ⟨_, rfl⟩
    rw [← hm2]
    have e2 : ∀ q, q ≠ v → m2 12 q = m1 12 q := fun q hq => by rw [hm2, zup_c, zuf_d _ _ hq]
    have f2 : zmF mM m2 := fun c c1 => by rw [hm2, zup_o _ _ _ c1, i3 c c1]
    have hF : ∀ q, v < q → q ≤ n → m1 12 q = 99 ∨ (0 ≤ m1 12 q ∧ m1 12 q ≤ n - q) := fun q q0 q1 => by
      by_cases c : q = n
      · rw [c, i4.1]; omega
      · rcases i4.2 q (by omega) (by omega) with a | a
        · exact Or.inl a.1
        · exact Or.inr (by omega)
    have key : ∃ w m3, FX6_layCuts_L26 n st v (fun y26_4 m26_ => FX6_layCuts_L11 n st (fun _ m11_ => some m11_) f (v + -1) m26_) zfu st m2 = FX6_layCuts_L11 n st (fun _ m11_ => some m11_) f (v + -1) m3 ∧ w = (0 : Int) ∧ zmF mM m3 ∧ (∀ q, q ≠ v → m3 12 q = m1 12 q) ∧ zCn (zx mM) ev n v (m1 12) (m3 12 v) (n + 1) := by
      refine zlom (FX6_layCuts_L26 n st v (fun y26_4 m26_ => FX6_layCuts_L11 n st (fun _ m11_ => some m11_) f (v + -1) m26_)) (fun r u m3 => n + 2 ≤ v + u + r ∧ 1 ≤ u ∧ u ≤ n - v + 2 ∧ (ev = 0 ∨ u % 2 = 0) ∧ zmF mM m3 ∧ (∀ q, q ≠ v → m3 12 q = m1 12 q) ∧ zCn (zx mM) ev n v (m1 12) (m3 12 v) u) (fun z => ∃ w m3, z = FX6_layCuts_L11 n st (fun _ m11_ => some m11_) f (v + -1) m3 ∧ w = (0 : Int) ∧ zmF mM m3 ∧ (∀ q, q ≠ v → m3 12 q = m1 12 q) ∧ zCn (zx mM) ev n v (m1 12) (m3 12 v) (n + 1)) ?_ ?_ (n + 2).toNat zfu st m2 ⟨by omega, by omega, by omega, by omega, f2, e2, Or.inl ⟨by rw [hm2, zup_c, zuf_e], fun w w0 w1 w2 hp => ?_⟩⟩ (by show _ < 4000; omega)
      · intro f' r' u m3 ⟨j1, j2, j3, j4, j5, j6, j7⟩
        have j00 : m3 0 0 = mM 0 0 := by rw [j5 0 (by omega)]
        have hx3 : zx m3 = zx mM := by unfold zx; rw [j5 1 (by omega)]
        have hT3 : zTm m3 := by unfold zTm; rw [j5 0 (by omega), j5 1 (by omega)]; exact hT
        rw [FX6_layCuts_L26_s]
        unfold FX6_layCuts_L26_B
        by_cases c : n < v + u
        · rw [if_pos (zlt_i (by omega))]
          refine Or.inl ⟨0, m3, rfl, rfl, j5, j6, ?_⟩
          rcases j7 with ⟨a1, a2⟩ | ⟨a1, a2, a3, a4⟩
          · exact Or.inl ⟨a1, fun w w0 _ w1 => a2 w w0 (by omega) w1⟩
          · exact Or.inr ⟨a1, a2, a3, fun w w0 _ w1 => a4 w w0 (by omega) w1⟩
        · obtain ⟨q, q1, q2⟩ := isMirror_spec hT3 (i := v) (k := u) (by omega) (by omega) (by omega)
          rw [hx3] at q2
          have hodd : ∀ w, 1 ≤ w → w < u + st → w ≠ u → zPiece (zx mM) ev v w → w < u := fun w w0 w1 w2 hp => by
            have := hp.2
            omega
          have hfu := hF (v + u) (by omega) (by omega)
          have hv3 : 0 ≤ m3 12 v ∧ m3 12 v ≤ 99 := by rcases j7 with ⟨a, _⟩ | ⟨a, b, _⟩ <;> omega
          rw [if_neg (znlt_i (by omega)), zcl_p q1]
          by_cases c2 : zp (zx mM) v u
          · rw [if_neg (zyn_1 q2 c2), zrd_p ⟨by omega, by omega⟩, zrd_p ⟨by omega, by omega⟩, j6 (v + u) (by omega)]
            by_cases c3 : m1 12 (v + u) + 1 < m3 12 v
            · rw [if_pos (zlt_i (by omega)), zrd_p ⟨by omega, by omega⟩, j6 (v + u) (by omega), zwr_p ⟨by omega, by omega⟩]
              refine Or.inr ⟨u + st, zup m3 12 v (m1 12 (v + u) + 1), rfl, by omega, by omega, by omega, by omega, fun c c1 => by rw [zup_o _ _ _ c1, j5 c c1], fun q hq => by rw [zup_c, zuf_d _ _ hq, j6 q hq], Or.inr ?_⟩
              rw [zup_c, zuf_e]
              refine ⟨by omega, by omega, ⟨u, j2, by omega, ⟨c2, by omega⟩, rfl⟩, fun w w0 w1 w2 hp => ?_⟩
              by_cases e : w = u
              · subst e; omega
              · have hw := hodd w w0 w1 e hp
                rcases j7 with ⟨a1, a2⟩ | ⟨a1, a2, a3, a4⟩
                · have := a2 w w0 hw w2 hp; omega
                · have := a4 w w0 hw w2 hp; omega
            · rw [if_neg (znlt_i (by omega))]
              refine Or.inr ⟨u + st, m3, rfl, by omega, by omega, by omega, by omega, j5, j6, ?_⟩
              rcases j7 with ⟨a1, a2⟩ | ⟨a1, a2, a3, a4⟩
              · refine Or.inl ⟨a1, fun w w0 w1 w2 hp => ?_⟩
                by_cases e : w = u
                · subst e; omega
                · exact a2 w w0 (hodd w w0 w1 e hp) w2 hp
              · refine Or.inr ⟨a1, a2, a3, fun w w0 w1 w2 hp => ?_⟩
                by_cases e : w = u
                · subst e; omega
                · exact a4 w w0 (hodd w w0 w1 e hp) w2 hp
          · rw [if_pos (zyn_0 q2 c2)]
            refine Or.inr ⟨u + st, m3, rfl, by omega, by omega, by omega, by omega, j5, j6, ?_⟩
            rcases j7 with ⟨a1, a2⟩ | ⟨a1, a2, a3, a4⟩
            · refine Or.inl ⟨a1, fun w w0 w1 w2 hp => ?_⟩
              by_cases e : w = u
              · subst e; exact absurd hp.1 c2
              · exact a2 w w0 (hodd w w0 w1 e hp) w2 hp
            · refine Or.inr ⟨a1, a2, a3, fun w w0 w1 w2 hp => ?_⟩
              by_cases e : w = u
              · subst e; exact absurd hp.1 c2
              · exact a4 w w0 (hodd w w0 w1 e hp) w2 hp
      · intro f' u m3 ⟨j1, j2, j3, j4, j5, j6, j7⟩
        rw [FX6_layCuts_L26_s]
        unfold FX6_layCuts_L26_B
        rw [if_pos (zlt_i (by omega))]
        refine ⟨0, m3, rfl, rfl, j5, j6, ?_⟩
        rcases j7 with ⟨a1, a2⟩ | ⟨a1, a2, a3, a4⟩
        · exact Or.inl ⟨a1, fun w w0 _ w1 => a2 w w0 (by omega) w1⟩
        · exact Or.inr ⟨a1, a2, a3, fun w w0 _ w1 => a4 w w0 (by omega) w1⟩
      · have := hp.2
        omega
    obtain ⟨_, m3, k1, -, k2, k3, k4⟩ := key
    rw [k1]
    refine Or.inr ⟨v + -1, m3, rfl, by omega, by omega, k2, by rw [k3 n (by omega)]; exact i4.1, fun s s0 s1 => ?_⟩
    by_cases e : s = v
    · subst e
      rcases k4 with ⟨a1, a2⟩ | ⟨a1, a2, ⟨w, w0, w1, w2, w3⟩, a4⟩
      · exact Or.inl ⟨a1, fun w w0 w1 hp => by rw [k3 _ (by omega)]; exact a2 w w0 (by omega) w1 hp⟩
      · exact Or.inr ⟨a1, a2, ⟨w, w0, w1, w2, by rw [k3 _ (by omega)]; exact w3⟩, fun w w0 w1 hp => by rw [k3 (s + w) (by omega)]; exact a4 w w0 (by omega) w1 hp⟩
    · rw [k3 s e]
      rcases i4.2 s (by omega) s1 with ⟨a1, a2⟩ | ⟨a1, a2, ⟨w, w0, w1, w2, w3⟩, a4⟩
      · exact Or.inl ⟨a1, fun w w0 w1 hp => by rw [k3 _ (by omega)]; exact a2 w w0 w1 hp⟩
      · exact Or.inr ⟨a1, a2, ⟨w, w0, w1, w2, by rw [k3 _ (by omega)]; exact w3⟩, fun w w0 w1 hp => by rw [k3 _ (by omega)]; exact a4 w w0 w1 hp⟩
  · intro f v m1 ⟨i1, i2, i3, i4⟩
    rw [FX6_layCuts_L11_s]
    unfold FX6_layCuts_L11_B
    rw [if_pos (zlt_i (by omega))]
    have e : v + 1 = 0 := by omega
    rw [e] at i4
    exact ⟨m1, rfl, i3, i4⟩
theorem zcE_F {mC' : zM} (h : zRel mC mM) (hf : zcF mC mC') : zcE mC mC' := ⟨zCI_cg h.cr (fun k hk => hf _ (by omega) (by omega)), fun c hc => hf c (by omega) (by omega)⟩
theorem zmE_F {mM' : zM} (hf : zmF mM mM') : zmE mM mM' := ⟨fun c c1 c2 => hf c (by omega), by rw [hf 0 (by omega)], by rw [hf 0 (by omega)], by rw [hf 0 (by omega)], fun i _ _ => by rw [hf 1 (by omega)]⟩
theorem S_evens (h : zRel mC mM) : zS_evens zRel mC mM := by
  intro a1 h1
  have hb : 0 ≤ mC 1 9 ∧ mC 1 9 ≤ 48 := h.t.ct.1
  have b0 := h.t.n
  obtain ⟨r1, p1, p2⟩ := w5 (a := a1) (lo := 0) (hi := mC 1 9) ⟨h1, by omega, by omega⟩
  obtain ⟨r2, p3, p4⟩ := w6 (a := a1) (lo := 0) (hi := mM 0 0) ⟨h1, by omega, by omega⟩
  rw [b0] at p4
  have g1 : zR (mM 0 0) := by omega
  by_cases c : 0 ≤ a1 ∧ a1 ≤ mC 1 9
  · have hci := h.t.ci
    rw [b0] at hci
    obtain ⟨m2, d1, d2, d3⟩ := cut5 (ev := 1) hci (Or.inr rfl) c.1 c.2
    obtain ⟨m4, e1, e2, e3⟩ := layCuts6 h.t.T (n := a1) (st := 2) (ev := 1) (Or.inr ⟨rfl, rfl⟩) c.1 (by omega)
    have hR := zRel_E h (zcE_F h d2) (zmE_F e2)
    have hq := zDF (by omega) d3 e3 a1.toNat 0 (by omega) (by omega)
    have hp : FX2_pieces m2 = some (m2 26 0) := by unfold FX2_pieces; rw [zrd_p ⟨by omega, by omega⟩]
    unfold FX5_evens FX6_evens
    rw [zcl_p p1, if_neg (zyn_1 p2 c), zcl_p d1, zcl_p hp, zgd_p h1, zgd_p g1, zcl_p p3, if_neg (zyn_1 p4 c), zcl_p e1, zrd_p ⟨by omega, by omega⟩]
    rcases hq with ⟨q1, q2⟩ | ⟨q1, q2, q3⟩
    · rw [if_neg (znlt_i (by omega)), if_neg (znlt_i (by omega))]
      exact ⟨_, _, _, rfl, rfl, hR⟩
    · rw [if_pos (zlt_i (by omega)), if_pos (zlt_i (by omega)), zrd_p ⟨by omega, by omega⟩, q1]
      exact ⟨_, _, _, rfl, rfl, hR⟩
  · unfold FX5_evens FX6_evens
    rw [zcl_p p1, if_pos (zyn_0 p2 c), zgd_p h1, zgd_p g1, zcl_p p3, if_pos (zyn_0 p4 c)]
    exact ⟨_, _, _, rfl, rfl, h⟩
end CU
