/-! ===== fair ===== -/
section
variable {G : GR}
theorem fV_step {f : Nat} : ∀ k t, fV G k f = some t → ∃ j, j < k ∧ fX G (fV G j) f = true := by
  intro k
  induction k with
  | zero => intro t e; cases e
  | succ k ih =>
    intro t e
    have e2 : (if f < 20 ∧ fX G (fV G k) f = true then some (fS G (fV G k)) else fV G k f) = some t := e
    by_cases c : f < 20 ∧ fX G (fV G k) f = true
    · exact ⟨k, by omega, c.2⟩
    · rw [if_neg c] at e2
      obtain ⟨j, hj, hx⟩ := ih t e2
      exact ⟨j, by omega, hx⟩
end
theorem s_fair (x y : Int32) : Sp3 x (fX3_fair x y) (fX4_fair x y) := by
  intro n h m hn ⟨G, R⟩
  unfold fX3_fair fX4_fair
  rcases R.there x with ⟨a, b⟩ | ⟨f, hf, e, ht, a, b⟩
  · left
    rw [b, e_bd, if_pos rfl]
    exact ⟨a, _, rfl, up_same, G, (R.thx 1).inc⟩
  · right
    refine ⟨a, ?_⟩
    have R0 := R.th0
    obtain ⟨h2, q2, F, R1⟩ := R0.rise
    obtain ⟨m2, q3, M, Z, R2⟩ := R1.lay
    obtain ⟨t, et⟩ := fV_there R.iq hf ht
    have tb : t ≤ 1000000 := fV_bv R.iq R.2.2.1.1.2.1 (fSteps G) (Nat.le_refl _) f t et
    obtain ⟨j, hj, hx⟩ := fV_step (fSteps G) t et
    obtain ⟨-, c1, -, c3⟩ := F
    obtain ⟨-, d1, -, d3⟩ := M
    have c20 : h2.1 20 f = nI t := by
      have := c1 f hf
      rw [et] at this
      exact this
    have d7 : m2.1 7 f = nI t := by
      have := d1 f hf
      rw [et] at this
      exact this
    obtain ⟨c21, c22⟩ : h2.1 21 f = nI (fWit G (fV G j) f) ∧ h2.1 22 f = nI j := c3 j f hj hf hx
    obtain ⟨d8, d9⟩ := d3 j f hj hf hx
    have fin : ∀ r : Int32, ∃ r' h3 m3, some (r, h2) = some (r', h3) ∧ some (r, m2) = some (r', m3) ∧ m3.1 0 0 = 0 ∧ Rel (n + 1) h3 m3 := fun r => ⟨_, _, _, rfl, rfl, by rw [Z.2.1 0 (by omega)]; exact up_same, G, R2.inc⟩
    rw [a, b, e_bd, e_bd, if_neg (show ¬ (1 : Int32) = 0 by decide), if_neg (show ¬ (1 : Int32) = 0 by decide), e, q2, q3, e_bd, e_bd]
    have hr : fX2_rateOf 19 2 (nI f) h2 = some (nI (gRate G f t), h2) := by
      unfold fX2_rateOf
      rw [c_has R2.rp hf, e_bd, if_pos ht, if_neg (by decide), e_rd hf (by omega), bd1]
      show fX0_rateBy 2 (nI f) (h2.1 20 f) h2 = _
      rw [c20, c_rateBy R2.rp R.iq hf ht (by omega)]
    have hr2 : fX4_fairRate (nI f) m2 = some (nI (gRate G f t), m2) := by
      unfold fX4_fairRate
      rw [e_rd hf (by omega), d7, m_rate R2.2.1 R.iq hf ht (by omega)]
      rfl
    simp only [e_rd hf (show 20 < 2147483648 by omega), c20, c21, c22, d7, d8, d9, hr, hr2, e_bd]
    by_cases k0 : y = 0
    · rw [if_pos k0, if_pos k0]; exact fin _
    · rw [if_neg k0, if_neg k0]
      by_cases k1 : y = 1
      · rw [if_pos k1, if_pos k1]; exact fin _
      · rw [if_neg k1, if_neg k1]
        by_cases k2 : y = 2
        · rw [if_pos k2, if_pos k2]; exact fin _
        · rw [if_neg k2, if_neg k2]
          by_cases k3 : y = 3
          · rw [if_pos k3, if_pos k3]; exact fin _
          · rw [if_neg k3, if_neg k3]; exact fin _
