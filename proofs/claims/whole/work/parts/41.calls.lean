/-! bring; acts; put, pop, change, undo, letter, keep, back, feed, clear -/
theorem zcp_0 (f g : Int → Int) (sp dp : Int) : zcp f g sp dp 0 = g := by
  funext j; unfold zcp; rw [if_neg (by omega)]
theorem zcp_s (f g : Int → Int) (sp dp v : Int) (hv : 0 ≤ v) : zuf (zcp f g sp dp v) (dp + v) (f (sp + v)) = zcp f g sp dp (v + 1) := by
  funext j
  unfold zuf zcp
  by_cases h : j = dp + v
  · subst h
    rw [if_pos rfl, if_pos (by omega)]
    exact congrArg f (by omega)
  · rw [if_neg h]
    by_cases h2 : dp ≤ j ∧ j < dp + v
    · rw [if_pos h2, if_pos (by omega)]
    · rw [if_neg h2, if_neg (by omega)]
theorem zcp_in (f g : Int → Int) {sp dp n j : Int} (h : dp ≤ j ∧ j < dp + n) : zcp f g sp dp n j = f (sp + (j - dp)) := if_pos h
theorem zcp_out (f g : Int → Int) {sp dp n j : Int} (h : ¬ (dp ≤ j ∧ j < dp + n)) : zcp f g sp dp n j = g j := if_neg h
theorem bring_spec {c0 n0 c2 n2 : Nat} {a1 a3 a4 : Int} {m : zM} (h : c0 ≠ c2 ∨ a3 ≤ a1) (h1 : 0 ≤ a1) (h2 : a1 + a4 ≤ n0) (h3 : 0 ≤ a3) (h4 : a3 + a4 ≤ n2) (h5 : 0 ≤ a4) (h6 : a4 ≤ 2000) : FX6_bring c0 n0 a1 c2 n2 a3 a4 m = some (zuc m c2 (zcp (m c0) (m c2) a1 a3 a4)) := by
  unfold FX6_bring
  refine zlom (FX6_bring_L3 c0 n0 a1 c2 n2 a3 a4 (fun _ m3_ => some m3_)) (fun r v m' => v + r = a4 ∧ 0 ≤ v ∧ m' = zuc m c2 (zcp (m c0) (m c2) a1 a3 v)) (fun x => x = some (zuc m c2 (zcp (m c0) (m c2) a1 a3 a4))) ?_ ?_ a4.toNat zfu 0 m ⟨by omega, by omega, by rw [zcp_0, zuc_same]⟩ (by show _ < 4000; omega)
  · intro f r v m' ⟨i1, i2, i3⟩
    refine Or.inr ⟨v + 1, zup m' c2 (a3 + v) (m' c0 (a1 + v)), ?_, by omega, by omega, ?_⟩
    · rw [FX6_bring_L3_s]
      unfold FX6_bring_L3_B
      rw [if_pos (zlt_i (by omega)), zrd_p ⟨by omega, by omega⟩, zwr_p ⟨by omega, by omega⟩]
    · have e : m' c0 (a1 + v) = m c0 (a1 + v) := by
        rw [i3]
        by_cases c : c0 = c2
        · subst c
          rw [zuc_at, zcp_out _ _ (by omega)]
        · rw [zuc_ne _ _ c]
      rw [e, i3, zup, zuc_zuc, zuc_at, zcp_s _ _ _ _ _ i2]
  · intro f v m' ⟨i1, i2, i3⟩
    rw [FX6_bring_L3_s]
    unfold FX6_bring_L3_B
    rw [if_neg (znlt_i (by omega)), i3, show v = a4 by omega]
theorem note_both {mC mM : zM} {n n' k p l c : Int} (h : zAc mC mM n) (hn : 0 ≤ n ∧ n ≤ 48) (hs : zst k p l c n n') : ∃ mC' mM', FX0_note k p l mC = some mC' ∧ FX6_note c mM = some mM' ∧ zAc mC' mM' n' ∧ (∀ c : Nat, c < 21 ∨ 24 < c → mC' c = mC c) ∧ (∀ c : Nat, c ≠ 0 → c ≠ 2 → mM' c = mM c) ∧ (∀ i : Int, i ≠ 2 → mM' 0 i = mM 0 i) := by
  obtain ⟨h1, h2, h3⟩ := h
  -- from a memory with room
  have key : ∀ mC1 mM1 : zM, mM1 0 2 = mC1 21 3 → (0 ≤ mC1 21 3 ∧ mC1 21 3 < 24) → zH (mC1 22) (mC1 23) (mC1 24) (mM1 2) (mC1 21 3).toNat n → (∀ c : Nat, c < 21 ∨ 24 < c → mC1 c = mC c) → (∀ c : Nat, c ≠ 0 → c ≠ 2 → mM1 c = mM c) → (∀ i : Int, i ≠ 2 → mM1 0 i = mM 0 i) →
      ∃ mC' mM', (zwr mC1 22 (mC1 21 3) k 24 fun m1 => zwr m1 23 (m1 21 3) p 24 fun m2 => zwr m2 24 (m2 21 3) l 24 fun m3 => zpf m3 21 3 ((m3 21 3) + 1) fun m4 => some m4) = some mC' ∧ (zwr mM1 2 (mM1 0 2) c 24 fun m1 => zpf m1 0 2 ((m1 0 2) + 1) fun m2 => some m2) = some mM' ∧ zAc mC' mM' n' ∧ (∀ c : Nat, c < 21 ∨ 24 < c → mC' c = mC c) ∧ (∀ c : Nat, c ≠ 0 → c ≠ 2 → mM' c = mM c) ∧ (∀ i : Int, i ≠ 2 → mM' 0 i = mM 0 i) := by
    intro mC1 mM1 g1 g2 g3 g4 g5 g6
    rw [zwr_p ⟨by omega, by omega⟩, zup_o _ _ _ (show (21 : Nat) ≠ 22 by omega), zwr_p ⟨by omega, by omega⟩, zup_o _ _ _ (show (21 : Nat) ≠ 23 by omega), zup_o _ _ _ (show (21 : Nat) ≠ 22 by omega), zwr_p ⟨by omega, by omega⟩, zpf_p, zup_o _ _ _ (show (21 : Nat) ≠ 24 by omega), zup_o _ _ _ (show (21 : Nat) ≠ 23 by omega), zup_o _ _ _ (show (21 : Nat) ≠ 22 by omega), zwr_p ⟨by omega, by omega⟩, zpf_p, zup_o _ _ _ (show (0 : Nat) ≠ 2 by omega)]
    refine ⟨_, _, rfl, rfl, ⟨?_, ?_, ?_⟩, fun c hc => ?_, fun c c0 c2 => ?_, fun i hi => ?_⟩
    · rw [zup_c, zuf_e, zup_c, zuf_e, g1]
    · rw [zup_c, zuf_e]; omega
    · rw [zup_c, zuf_e, zup_o _ _ _ (show (22 : Nat) ≠ 21 by omega), zup_o _ _ _ (show (22 : Nat) ≠ 24 by omega), zup_o _ _ _ (show (22 : Nat) ≠ 23 by omega), zup_c, zup_o _ _ _ (show (23 : Nat) ≠ 21 by omega), zup_o _ _ _ (show (23 : Nat) ≠ 24 by omega), zup_c, zup_o _ _ _ (show (23 : Nat) ≠ 22 by omega), zup_o _ _ _ (show (24 : Nat) ≠ 21 by omega), zup_c, zup_o _ _ _ (show (24 : Nat) ≠ 23 by omega), zup_o _ _ _ (show (24 : Nat) ≠ 22 by omega), zup_o _ _ _ (show (2 : Nat) ≠ 0 by omega), zup_c, show (mC1 21 3 + 1).toNat = (mC1 21 3).toNat + 1 by omega]
      refine ⟨n, hn, ?_, zH_cg _ n (fun i i0 i1 => ?_) g3⟩
      · rw [show ((mC1 21 3).toNat : Int) = mC1 21 3 by omega, g1, zuf_e, zuf_e, zuf_e, zuf_e]
        exact hs
      · rw [g1, zuf_d _ _ (by omega), zuf_d _ _ (by omega), zuf_d _ _ (by omega), zuf_d _ _ (by omega)]
        exact ⟨rfl, rfl, rfl, rfl⟩
    · rw [zup_o _ _ _ (by omega), zup_o _ _ _ (by omega), zup_o _ _ _ (by omega), zup_o _ _ _ (by omega)]
      exact g4 c hc
    · rw [zup_o _ _ _ c0, zup_o _ _ _ c2]
      exact g5 c c0 c2
    · rw [zup_c, zuf_d _ _ hi, zup_o _ _ _ (by omega)]
      exact g6 i hi
  unfold FX0_note FX6_note
  rw [zjn_p, zjn_p]
  by_cases e : mC 21 3 = 24
  · rw [if_pos (by rw [e]), if_pos (by rw [h1, e])]
    have f1 : FX0_forgetOldest mC = some (zuc (zuc (zuc (zup mC 21 3 23) 22 (zcp (mC 22) (mC 22) 1 0 23)) 23 (zcp (mC 23) (mC 23) 1 0 23)) 24 (zcp (mC 24) (mC 24) 1 0 23)) := by
      unfold FX0_forgetOldest
      rw [zpf_p, e, show (24 : Int) - 1 = 23 by omega, zup_c, zuf_e, zcpy_p (by omega), zuc_ne _ _ (show (21 : Nat) ≠ 22 by omega), zup_c, zuf_e, zcpy_p (by omega), zuc_ne _ _ (show (21 : Nat) ≠ 23 by omega), zuc_ne _ _ (show (21 : Nat) ≠ 22 by omega), zup_c, zuf_e, zcpy_p (by omega)]
      rw [zup_o _ _ _ (show (22 : Nat) ≠ 21 by omega), zuc_ne _ _ (show (23 : Nat) ≠ 22 by omega), zup_o _ _ _ (show (23 : Nat) ≠ 21 by omega), zuc_ne _ _ (show (24 : Nat) ≠ 23 by omega), zuc_ne _ _ (show (24 : Nat) ≠ 22 by omega), zup_o _ _ _ (show (24 : Nat) ≠ 21 by omega)]
    rw [zcl_p f1, zcl_p (bring_spec (Or.inr (by omega)) (by omega) (by omega) (by omega) (by omega) (by omega) (by omega)), zpf_p, zuc_ne _ _ (show (0 : Nat) ≠ 2 by omega), h1, e, show (24 : Int) - 1 = 23 by omega]
    refine key _ _ ?_ ?_ ?_ (fun c hc => ?_) (fun c c0 c2 => ?_) (fun i hi => ?_)
    · rw [zup_c, zuf_e, zuc_ne _ _ (by omega), zuc_ne _ _ (by omega), zuc_ne _ _ (by omega), zup_c, zuf_e]
    · rw [zuc_ne _ _ (by omega), zuc_ne _ _ (by omega), zuc_ne _ _ (by omega), zup_c, zuf_e]; omega
    · rw [zuc_ne _ _ (show (21 : Nat) ≠ 24 by omega), zuc_ne _ _ (show (21 : Nat) ≠ 23 by omega), zuc_ne _ _ (show (21 : Nat) ≠ 22 by omega), zup_c, zuf_e, zuc_ne _ _ (show (22 : Nat) ≠ 24 by omega), zuc_ne _ _ (show (22 : Nat) ≠ 23 by omega), zuc_at, zuc_ne _ _ (show (23 : Nat) ≠ 24 by omega), zuc_at, zuc_at, zup_o _ _ _ (show (2 : Nat) ≠ 0 by omega), zuc_at]
      rw [e] at h3
      refine zH_cg 23 n (fun i i0 i1 => ?_) (zH_sh 23 n h3)
      rw [zcp_in _ _ (by omega), zcp_in _ _ (by omega), zcp_in _ _ (by omega), zcp_in _ _ (by omega), show 1 + (i - 0) = i + 1 by omega]
      exact ⟨rfl, rfl, rfl, rfl⟩
    · rw [zuc_ne _ _ (by omega), zuc_ne _ _ (by omega), zuc_ne _ _ (by omega), zup_o _ _ _ (by omega)]
    · rw [zup_o _ _ _ c0, zuc_ne _ _ c2]
    · rw [zup_c, zuf_d _ _ hi, zuc_ne _ _ (by omega)]
  · rw [if_neg (zne_i (by omega)), if_neg (zne_i (by omega))]
    exact key mC mM h1 (by omega) h3 (fun _ _ => rfl) (fun _ _ _ => rfl) (fun _ _ => rfl)
