/-! ===== rates by the water ===== -/
def gLv (G : GR) (f : Nat) : Nat := (fV G (fSteps G) f).getD 1000000
def gRs (G : GR) (P : Nat → Bool) : Nat := fb_sm (fun f => if P f = true then gRate G f (gLv G f) else 0) 20
section
variable {w p : Nat} {h : th_H} {G : GR} {P : Nat → Bool}
theorem gLv_le (I : IQ G) (B : IB G) (f : Nat) : gLv G f ≤ 1000000 := by
  unfold gLv
  cases e : fV G (fSteps G) f with
  | none => exact Nat.le_refl _
  | some t => exact fV_bv I B (fSteps G) (Nat.le_refl _) f t e
theorem gRs_le (I : IQ G) (B : IB G) (hP : ∀ f, f < 20 → P f = true → gTh G f = true) : gRs G P ≤ 180000180 := by
  have key : ∀ n, n ≤ 20 → fb_sm (fun f => if P f = true then gRate G f (gLv G f) else 0) n ≤ n * 9000009 := by
    intro n
    induction n with
    | zero => intro _; exact Nat.zero_le _
    | succ n ih =>
      intro hn
      have h1 := ih (by omega)
      rw [fb_sm_succ]
      by_cases c : P n = true
      · have := gRate_le I (show n < 20 by omega) (hP n (by omega) c) (show gLv G n ≤ 1000001 by have := gLv_le I B n; omega)
        rw [if_pos c, Nat.succ_mul]
        exact Nat.add_le_add h1 this
      · rw [if_neg c, Nat.succ_mul]
        exact Nat.le_trans h1 (Nat.le_add_right _ _)
  exact key 20 (by omega)
theorem c_ratesOf (R : RP p h G) (F : FWt w G h) (I : IQ G) (B : IB G) (hP : ∀ f, f < 20 → P f = true → gTh G f = true) : fX2_ratesOf w p (nI (mk P 20)) h = some (nI (gRs G P), h) := by
  unfold fX2_ratesOf gRs
  refine for_up 20 (fun fu i => fX2_ratesOf_c4 w p fu (nI (mk P 20)) (nI (fb_sm (fun f => if P f = true then gRate G f (gLv G f) else 0) i)) (nI i) h) _ ?_ ?_ (by omega)
  · intro fu i hi
    rw [fX2_ratesOf_c4, if_pos (show nI i < (20 : Int32) from nI_lt (a := i) (b := 20) hi (by omega)), e_bit (mk20 _) (by omega), ic e_c0, mk20_bit _ hi, fb_sm_succ, nI_1]
    by_cases c : P i = true
    · have hl : gLv G i ≤ 1000001 := by have := gLv_le I B i; omega
      have hw : h.1 (w + 1) i = nI (gLv G i) := F.2.1 i hi
      rw [if_neg (not_not_intro c), if_pos c, e_rd hi (by omega), hw, c_rateBy R I hi (hP i hi c) hl, e_bd, nI_add]
    · rw [if_pos c, if_neg c]
      rfl
  · intro fu
    rw [fX2_ratesOf_c4, if_neg (by decide)]
theorem m_fairRate (R : RM h G) (M : FM G (fSteps G) h) (I : IQ G) (B : IB G) {f : Nat} (hf : f < 20) (ht : gTh G f = true) : fX4_fairRate (nI f) h = some (nI (gRate G f (gLv G f)), h) := by
  obtain ⟨t, et⟩ := fV_there I hf ht
  have d7 : h.1 7 f = nI (gLv G f) := by
    have := M.2.1 f hf
    rw [et] at this
    unfold gLv
    rw [et]
    exact this
  have hl : gLv G f ≤ 1000001 := by have := gLv_le I B f; omega
  unfold fX4_fairRate
  rw [e_rd hf (by omega), d7, m_rate R I hf ht hl]
  rfl
theorem m_allRates (R : RM h G) (M : FM G (fSteps G) h) (I : IQ G) (B : IB G) : fX4_allRates h = some (nI (gRs G (gTh G)), h) := by
  unfold fX4_allRates gRs
  refine for_up 20 (fun fu i => fX4_allRates_c4 fu (nI (fb_sm (fun f => if gTh G f = true then gRate G f (gLv G f) else 0) i)) (nI i) h) _ ?_ ?_ (by omega)
  · intro fu i hi
    rw [fX4_allRates_c4, if_pos (show nI i < (20 : Int32) from nI_lt (a := i) (b := 20) hi (by omega)), m_isFlow R I hi, e_bd, ic e_c0, fb_sm_succ, nI_1]
    by_cases c : gTh G i = true
    · rw [if_neg (not_not_intro c), if_pos c, m_fairRate R M I B hi c, e_bd, nI_add]
    · rw [if_pos c, if_neg c, show (0 : Int32) = nI 0 from rfl, nI_add]
  · intro fu
    rw [fX4_allRates_c4, if_neg (by decide)]
theorem m_usedOf (R : RM h G) (M : FM G (fSteps G) h) (I : IQ G) (B : IB G) {l : Nat} (hl : l < 10) : fX4_usedOf (nI l) h = some (nI (gRs G (fun f => gOv G f l)), h) := by
  unfold fX4_usedOf gRs
  refine for_up 20 (fun fu i => fX4_usedOf_c4 fu (nI l) (nI (fb_sm (fun f => if gOv G f l = true then gRate G f (gLv G f) else 0) i)) (nI i) h) _ ?_ ?_ (by omega)
  · intro fu i hi
    rw [fX4_usedOf_c4, if_pos (show nI i < (20 : Int32) from nI_lt (a := i) (b := 20) hi (by omega)), m_goesOver R I hi hl, e_bd, ic e_c0, fb_sm_succ, nI_1]
    by_cases c : gOv G i l = true
    · rw [if_neg (not_not_intro c), if_pos c, m_fairRate R M I B hi (I.ov hi c).1, e_bd, nI_add]
    · rw [if_pos c, if_neg c, show (0 : Int32) = nI 0 from rfl, nI_add]
  · intro fu
    rw [fX4_usedOf_c4, if_neg (by decide)]
end
