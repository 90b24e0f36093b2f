/-! ===== flow: a call that can throw ===== -/
def Sp3 (x : Int32) (fc fm : th_H → Option (Int32 × th_H)) : Prop := ∀ n h m, n < 512 → Rel n h m →
  (fX0_has 2 x h = some (0, h) ∧ ∃ m2, fm m = some (0, m2) ∧ m2.1 0 0 = 1 ∧ Rel (n + 1) h m2) ∨
  (fX0_has 2 x h = some (1, h) ∧ ∃ r h2 m2, fc h = some (r, h2) ∧ fm m = some (r, m2) ∧ m2.1 0 0 = 0 ∧ Rel (n + 1) h2 m2)
section
variable {n : Nat} {h m : th_H} {G : GR}
theorem RelG.thx (R : RelG n G h m) (x : Int32) : RelG n G h (th_up m 0 0 x) := by
  obtain ⟨a, b, c, d, e, f, -, -, -⟩ := id R
  exact R.next (fun _ _ => rfl) a (b.off (up_cell (by omega))) c d e f (up_cell (by omega)) (up_cell (by omega)) (up_cell (by omega))
/-- whether the flow is there, with the mark of a throw -/
theorem RelG.there (R : RelG n G h m) (x : Int32) : (fX0_has 2 x h = some (0, h) ∧ fX4_isThere x m = some (0, th_up m 0 0 1)) ∨ ∃ f, f < 20 ∧ x = nI f ∧ gTh G f = true ∧ fX0_has 2 x h = some (1, h) ∧ fX4_isThere x m = some (1, th_up m 0 0 0) := by
  unfold fX4_isThere fX4_isThere_c14
  rcases R.flow x with ⟨a, b⟩ | ⟨f, hf, e, ht, a, b⟩
  · left
    rw [b, e_bd, if_pos rfl, e_st, up_same, if_neg (by decide)]
    exact ⟨a, rfl⟩
  · right
    rw [b, e_bd, if_neg (by decide), e_st, up_same, if_pos rfl]
    exact ⟨f, hf, e, ht, a, rfl⟩
end
theorem s_flow (x y : Int32) : Sp3 x (fX3_flow x y) (fX4_flow x y) := by
  intro n h m hn ⟨G, R⟩
  unfold fX3_flow fX4_flow
  rcases R.there x with ⟨a, b⟩ | ⟨f, hf, e, ht, a, b⟩
  · left
    rw [b, e_bd, if_pos rfl]
    exact ⟨a, _, rfl, up_same, G, (R.thx 1).inc⟩
  · right
    have R0 := R.th0
    have T := R.2.2.1.told hf ht
    have hh := R.2.2.1.ih f hf ht
    have v5 : h.1 5 f = nI (gName G f) := R.1.2.1 f hf ht
    have v6 : h.1 6 f = nI (gPath G f) := by
      have := R.rp.2.2.1 f hf
      rw [if_pos ht] at this
      exact this
    obtain ⟨v7, v8, v9⟩ : h.1 7 f = nI (gWt G f) ∧ h.1 8 f = nI (gLeast G f) ∧ h.1 9 f = nI (gWant G f) := R.rp.2.2.2.1 f hf ht
    have v12 : h.1 12 f = nI (gTold G f) := (R.1.2.2.2.1 f hf ht).1
    refine ⟨a, ?_⟩
    have fin : ∀ r : Int32, ∃ r' h2 m2, some (r, h) = some (r', h2) ∧ some (r, th_up m 0 0 0) = some (r', m2) ∧ m2.1 0 0 = 0 ∧ Rel (n + 1) h2 m2 := fun r => ⟨_, _, _, rfl, rfl, up_same, G, R0.inc⟩
    rw [a, b, e_bd, e_bd, if_neg (show ¬ (1 : Int32) = 0 by decide), if_neg (show ¬ (1 : Int32) = 0 by decide), e]
    have hr : fX0_rateBy 2 (nI f) (nI (gTold G f)) h = some (nI (gRate G f (gTold G f)), h) := c_rateBy R.rp R.iq hf ht (by omega)
    have hr2 : fX4_rate (nI f) (nI (G (23 + 11 * f + 7))) (th_up m 0 0 0) = some (nI (gRate G f (gTold G f)), th_up m 0 0 0) := m_rate R0.2.1 R.iq hf ht (show gTold G f ≤ 1000001 by omega)
    simp only [e_rd hf (show 20 < 2147483648 by omega), v5, v6, v7, v8, v9, v12, hr, c_ownOf R.rp R.iq hf ht, c_isHeld R.1 hf, m_at, e_bd, e_addl]
    rw [m_own R0.2.1 R.iq hf ht, m_row R0.2.1 (show 23 + 11 * f + 6 < 643 by omega), m_row R0.2.1 (show 23 + 11 * f + 7 < 643 by omega), m_row R0.2.1 (show 23 + 11 * f + 7 < 643 by omega), hr2, m_inl y 0 4 (by decide) (by decide), e_bd, e_bd, e_bd]
    by_cases d : 0 ≤ y.toInt ∧ y.toInt ≤ 8
    · obtain ⟨j, hj, e⟩ := rng (x := y) (n := 9) (by omega) (by omega)
      subst e
      have rd : ∀ j, j < 5 → th_rd (th_up m 0 0 0) 2 643 (nI (23 + 11 * f + 1) + nI j) (fun v15 => some (v15, th_up m 0 0 0)) = some (nI (G (23 + 11 * f + 1 + j)), th_up m 0 0 0) := fun j hj => by rw [nI_add, m_row R0.2.1 (by omega)]
      obtain rfl | rfl | rfl | rfl | rfl | rfl | rfl | rfl | rfl : j = 0 ∨ j = 1 ∨ j = 2 ∨ j = 3 ∨ j = 4 ∨ j = 5 ∨ j = 6 ∨ j = 7 ∨ j = 8 := by omega
      · rw [rd 0 (by omega)]; exact fin _
      · rw [rd 1 (by omega)]; exact fin _
      · rw [rd 2 (by omega)]; exact fin _
      · rw [rd 3 (by omega)]; exact fin _
      · rw [rd 4 (by omega)]; exact fin _
      · exact fin _
      · have h2 : gHeld G f = 0 ∨ gHeld G f = 1 := by omega
        rw [ht]
        rcases h2 with h2 | h2
        · rw [show G (23 + 11 * f + 6) = 0 from h2, h2]; exact fin _
        · rw [show G (23 + 11 * f + 6) = 1 from h2, h2]; exact fin _
      · exact fin _
      · exact fin _
    · have ny : ∀ k : Int32, 0 ≤ k.toInt ∧ k.toInt ≤ 8 → ¬ y = k := fun k hk e => d (by rw [e]; exact hk)
      simp only [ny 0 (by decide), ny 1 (by decide), ny 2 (by decide), ny 3 (by decide), ny 4 (by decide), ny 5 (by decide), ny 6 (by decide), ny 7 (by decide), ny 8 (by decide), ↓reduceIte]
      have ny4 : ¬ ((OfNat.ofNat 0 : Int) ≤ y.toInt ∧ y.toInt ≤ (OfNat.ofNat 4 : Int)) := fun z => d ⟨z.1, Int.le_trans z.2 (by decide)⟩
      rw [if_neg ny4, if_pos rfl]
      exact fin _
