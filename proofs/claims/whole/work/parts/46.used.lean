/-! ===== used ===== -/
section
variable {w p : Nat} {h : th_H} {G : GR}
theorem c_witnessedBy (R : RP p h G) (x : Int32) : fX2_witnessedBy w p x h = some (nI (fb_ct (fun f => gTh G f && decide (h.1 (w + 2) f = x)) 20), h) := by
  unfold fX2_witnessedBy
  refine for_up 20 (fun fu i => fX2_witnessedBy_c4 w p fu x (nI (fb_ct (fun f => gTh G f && decide (h.1 (w + 2) f = x)) i)) (nI i) h) _ ?_ ?_ (by omega)
  · intro fu i hi
    rw [fX2_witnessedBy_c4, if_pos (show nI i < (20 : Int32) from nI_lt (a := i) (b := 20) hi (by omega)), c_has R hi, e_bd, ic e_c0, fb_ct_succ, e_rd hi (by omega), show (0 : Int32) = nI 0 from rfl, show (1 : Int32) = nI 1 from rfl, nI_add, nI_add, nI_add]
    by_cases c : gTh G i = true
    · rw [if_neg (not_not_intro c)]
      by_cases d : h.1 (w + 2) i = x
      · rw [if_pos d, if_pos (by simp [c, d])]
      · rw [if_neg d, if_neg (by simp [d])]
    · rw [if_pos c, if_neg (by simp [c])]
  · intro fu
    rw [fX2_witnessedBy_c4, if_neg (by decide)]
theorem m_used_c42 (R : RM h G) (I : IQ G) {l : Nat} (hl : l < 10) (y u : Int32) : fX4_used_c42 1000 (nI l) y u 0 0 h = (if y = 0 then some (u, h) else if y = 1 then some (nI (gCap G l) - u, h) else some (nI (fb_ct (fun f => gTh G f && decide (h.1 8 f = nI l)) 20), h)) := by
  refine for_up 20 (fun fu i => fX4_used_c42 fu (nI l) y u (nI (fb_ct (fun f => gTh G f && decide (h.1 8 f = nI l)) i)) (nI i) h) _ ?_ ?_ (by omega)
  · intro fu i hi
    rw [fX4_used_c42, if_pos (show nI i < (20 : Int32) from nI_lt (a := i) (b := 20) hi (by omega)), m_isFlow R I hi, e_bd, ic e_c0, fb_ct_succ, e_rd hi (by omega), show (0 : Int32) = nI 0 from rfl, show (1 : Int32) = nI 1 from rfl, nI_add, nI_add, nI_add]
    by_cases c : gTh G i = true
    · rw [if_neg (not_not_intro c)]
      by_cases d : h.1 8 i = nI l
      · rw [if_pos d, if_pos (by simp [c, d])]
      · rw [if_neg d, if_neg (by simp [d])]
    · rw [if_pos c, if_neg (by simp [c])]
  · intro fu
    rw [fX4_used_c42, if_neg (by decide), e_ladd, m_row R (by omega)]
    rfl
end
theorem s_used (x y : Int32) : Sp2 (fX3_used x y) (fX4_used x y) := by
  intro n h m hn ⟨G, R⟩
  have R0 := R.th0
  have I := R.iq
  have B := R.2.2.1.1.2.1
  unfold fX3_used fX4_used
  rw [c_isLink, e_bd, e_st, m_isLink, e_bd, ic e_c0, ic e_c0]
  by_cases c : 0 ≤ x.toInt ∧ x.toInt ≤ 9
  · rw [if_neg (not_not_intro c), if_neg (not_not_intro c)]
    obtain ⟨l, hl, e⟩ := e_li x c
    subst e
    obtain ⟨h2, q2, F, R1⟩ := R0.rise
    obtain ⟨m2, q3, M, Z, R2⟩ := R1.lay
    have cr : fX2_ratesOf 19 2 (nI (mk (fun f => gOv G f l) 20)) h2 = some (nI (gRs G (fun f => gOv G f l)), h2) := c_ratesOf R2.rp F I B (fun f hf ho => (I.ov hf ho).1)
    have lf : fX2_leftOf 19 2 (nI l) h2 = some (nI (gCap G l) - nI (gRs G (fun f => gOv G f l)), h2) := by
      unfold fX2_leftOf
      rw [e_rd hl (by omega), R2.rp.1 l hl, e_rd hl (by omega), R2.rp.2.1 l hl, cr]
      rfl
    have c4 : h2.1 4 l = nI (mk (fun f => gOv G f l) 20) := R2.rp.2.1 l hl
    have wt : fb_ct (fun f => gTh G f && decide (h2.1 (19 + 2) f = nI l)) 20 = fb_ct (fun f => gTh G f && decide (m2.1 8 f = nI l)) 20 := fb_ct_cong (fun f hf => by
      by_cases ht : gTh G f = true
      · obtain ⟨t, et⟩ := fV_there I hf ht
        obtain ⟨j, hj, hx⟩ := fV_step (fSteps G) t et
        rw [(F.2.2.2 j f hj hf hx).1, (M.2.2.2 j f hj hf hx).1]
      · simp [ht])
    rw [q2, e_bd, e_rd hl (by omega), c4, cr, lf, c_witnessedBy R2.rp, wt, e_bd, e_bd, e_bd, m_inl y 0 2 (by decide) (by decide), e_bd, ic e_c0, q3, e_bd, m_usedOf R2.2.1 M I B hl, e_bd, m_used_c42 R2.2.1 I hl]
    by_cases d : 0 ≤ y.toInt ∧ y.toInt ≤ 2
    · obtain ⟨j, hj, e⟩ := rng (x := y) (n := 3) (by omega) (by omega)
      subst e
      rw [if_neg (not_not_intro d)]
      obtain rfl | rfl | rfl : j = 0 ∨ j = 1 ∨ j = 2 := by omega
      · exact ⟨_, _, _, rfl, rfl, G, R2.inc⟩
      · exact ⟨_, _, _, rfl, rfl, G, R2.inc⟩
      · exact ⟨_, _, _, rfl, rfl, G, R2.inc⟩
    · rw [if_pos d, if_neg (fun e => d (by rw [e]; decide)), if_neg (fun e => d (by rw [e]; decide)), if_neg (fun e => d (by rw [e]; decide))]
      exact ⟨_, _, _, rfl, rfl, G, R1.inc⟩
  · rw [if_pos c, if_pos c]
    exact ⟨_, _, _, rfl, rfl, G, R0.inc⟩
