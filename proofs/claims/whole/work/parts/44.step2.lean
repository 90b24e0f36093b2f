/-! ===== step, the two sides ===== -/
theorem s_step (x y : Int32) : Sp2 (fX3_step x y) (fX4_step x y) := by
  intro n h m hn ⟨G, R⟩
  have R0 := R.th0
  obtain ⟨h2, q2, F, R1⟩ := R0.rise
  obtain ⟨m2, q3, M, Z, R2⟩ := R1.lay
  have I := R.iq
  have B := R.2.2.1.1.2.1
  have h20 : fSteps G ≤ 20 := fSteps_le
  have c8 : h2.1 19 8 = nI (fSteps G) := F.1
  have d13 : m2.1 0 13 = nI (fSteps G) := M.1
  unfold fX3_step fX4_step
  rw [e_st, q2, q3, e_bd, e_bd, d13, m_inN x h20, e_bd, ic e_c0, c8]
  have fin : ∀ r : Int32, ∃ r' h3 m3, some (r, h2) = some (r', h3) ∧ some (r, m2) = some (r', m3) ∧ Rel (n + 1) h3 m3 := fun r => ⟨_, _, _, rfl, rfl, G, R2.inc⟩
  have e1 : (x < 0) = (x.toInt < 0) := e_xlt x 0 (by decide)
  have e2 : (x < nI (fSteps G)) = (x.toInt < (fSteps G : Int)) := by
    have h2 : (nI (fSteps G)).toInt = ((fSteps G : Nat) : Int) := nI_toInt (by omega)
    rw [fa_lt, h2]
  rw [ic e1, ic e2]
  by_cases c : 0 ≤ x.toInt ∧ x.toInt < (fSteps G : Int)
  · rw [if_neg (show ¬ x.toInt < 0 by omega), if_pos c.2, if_neg (not_not_intro c)]
    obtain ⟨j, hj, e⟩ := rng c (by omega)
    subst e
    have j20 : j < 20 := by omega
    obtain ⟨c23, c24, c25⟩ : h2.1 23 j = nI (fS G (fV G j)) ∧ h2.1 24 j = nI (mk (fX G (fV G j)) 20) ∧ h2.1 25 j = nI (mk (fK G (fV G j)) 10) := F.2.2.1 j hj
    simp only [e_rd j20 (show 20 < 2147483648 by omega), c23, c24, c25, c_ratesOf R2.rp F I B (fun f _ hx => fX_th hx), e_bd]
    rw [m_inl y 0 3 (by decide) (by decide), e_bd, ic e_c0, m_step_c44 R2.2.1 M I B hj]
    by_cases d : 0 ≤ y.toInt ∧ y.toInt ≤ 3
    · rw [if_neg (not_not_intro d)]
      obtain ⟨i, hi, e⟩ := rng (x := y) (n := 4) (by omega) (by omega)
      subst e
      obtain rfl | rfl | rfl | rfl : i = 0 ∨ i = 1 ∨ i = 2 ∨ i = 3 := by omega
      · exact fin _
      · exact fin _
      · exact fin _
      · exact fin _
    · have ny : ∀ k : Int32, 0 ≤ k.toInt ∧ k.toInt ≤ 3 → ¬ y = k := fun k hk e => d (by rw [e]; exact hk)
      rw [if_pos d, if_neg (ny 0 (by decide)), if_neg (ny 1 (by decide)), if_neg (ny 2 (by decide)), if_neg (ny 3 (by decide))]
      exact fin _
  · rw [if_pos c]
    by_cases c1 : x.toInt < 0
    · rw [if_pos c1]; exact fin _
    · rw [if_neg c1, if_neg (by omega)]; exact fin _
