/-! ===== come, both sides ===== -/
section
variable {p q : Nat} {h m : th_H} {G : GR}
theorem named_none {x : Int32} (h20 : ¬ gNamed G x < 20) : ∀ g, g < 20 → gTh G g = true → nI (gName G g) ≠ x := by
  intro g hg tg e
  have hle : gNamed G x ≤ 20 := fa_first_le _ _
  have := fa_first_no (fun f => gTh G f && decide (nI (gName G f) = x)) 20 g (show g < gNamed G x by omega)
  simp [tg, e] at this
/-- whether it may come, its name too: both sides -/
theorem come_rel (R : RQ q h G) (M : RM m G) (I : II G) (x0 x1 x2 x3 x4 : Int32) : ∃ r, fX3_whyNotCome (q + 1) x0 x1 x2 x3 x4 h = some (r, h) ∧ ((r = 0 ∧ ((fX4_whyNot x1 x2 x3 x4 m = some (0, m)) ∨ ¬ (0 ≤ x0.toInt ∧ x0.toInt ≤ 999999))) ∨
    (r = 2 ∧ (∃ w, fX4_whyNot x1 x2 x3 x4 m = some (w, m) ∧ w ≠ 0) ∧ (0 ≤ x0.toInt ∧ x0.toInt ≤ 999999) ∧ ∃ w, fX4_namedBy x0 m = some (w, m) ∧ w ≠ -1) ∨
    ((r = 3 ∨ r = 4) ∧ fX4_whyNot x1 x2 x3 x4 m = some (r, m) ∧ (0 ≤ x0.toInt ∧ x0.toInt ≤ 999999) ∧ fX4_namedBy x0 m = some (-1, m)) ∨
    (r = -1 ∧ fX4_whyNot x1 x2 x3 x4 m = some (-1, m) ∧ fX4_namedBy x0 m = some (-1, m) ∧ gFree G < 20 ∧ ∃ nm a b c d, x0 = nI nm ∧ x1 = nI a ∧ x2 = nI b ∧ x3 = nI c ∧ x4 = nI d ∧ OKF G a b c d ∧ nm < 1000000 ∧ ∀ g, g < 20 → gTh G g = true → gName G g ≠ nm)) ∧ (0 ≤ x0.toInt ∧ x0.toInt ≤ 999999 → ∃ w, fX4_whyNot x1 x2 x3 x4 m = some (w, m)) := by
  obtain ⟨r, q1, q2, hr⟩ := why_rel R.1 M I.1.1 I.1.2.1 x1 x2 x3 x4
  unfold fX3_whyNotCome fX3_whyNotCome_c39
  have e1 : (x0 < 0) = (x0.toInt < 0) := e_xlt x0 0 (by decide)
  have e2 : (x0 < 1000000) = (x0.toInt < 1000000) := e_xlt x0 1000000 (by decide)
  rw [ic e1, ic e2]
  by_cases c : 0 ≤ x0.toInt ∧ x0.toInt ≤ 999999
  · rw [if_neg (show ¬ x0.toInt < 0 by omega), if_pos (show x0.toInt < 1000000 by omega), q1, e_bd, c_flowNamed R.1 R.2.1, e_bd]
    have mn := m_namedBy M I x0
    obtain ⟨nm, hnm, e⟩ := rng (x := x0) (n := 1000000) (by omega) (by omega)
    have hg : gNamed G x0 ≤ 20 := fa_first_le _ _
    by_cases k : gNamed G x0 < 20
    · rw [if_pos k] at mn
      have ne : ¬ nI (gNamed G x0) = -1 := by rw [e_ne1 (by omega)]; exact id
      rw [if_pos k, if_neg ne, if_neg (show ¬ (1 : Int32) = 0 by decide)]
      by_cases z : r = 0
      · rw [if_pos z]
        exact ⟨r, rfl, Or.inl ⟨z, Or.inl (by rw [q2, z])⟩, fun _ => ⟨r, q2⟩⟩
      · rw [if_neg z]
        exact ⟨2, rfl, Or.inr (Or.inl ⟨rfl, ⟨r, q2, z⟩, c, _, mn, ne⟩), fun _ => ⟨r, q2⟩⟩
    · rw [if_neg k] at mn
      rw [if_neg k, if_pos rfl, if_pos rfl]
      have er : (if r = 0 then some (r, h) else some (r, h)) = some (r, h) := by split <;> rfl
      rw [er]
      refine ⟨r, rfl, ?_, fun _ => ⟨r, q2⟩⟩
      rcases hr with z | z | z | ⟨z, y, a, b, cc, d, z1, z2, z3, z4, K⟩
      · exact Or.inl ⟨z, Or.inl (by rw [q2, z])⟩
      · exact Or.inr (Or.inr (Or.inl ⟨Or.inl z, q2, c, mn⟩))
      · exact Or.inr (Or.inr (Or.inl ⟨Or.inr z, q2, c, mn⟩))
      · refine Or.inr (Or.inr (Or.inr ⟨z, by rw [q2, z], mn, y, nm, a, b, cc, d, e, z1, z2, z3, z4, K, hnm, fun g hg tg en => ?_⟩))
        exact named_none k g hg tg (by rw [en, e])
  · by_cases c1 : x0.toInt < 0
    · rw [if_pos c1]
      exact ⟨0, rfl, Or.inl ⟨rfl, Or.inr c⟩, fun z => absurd z c⟩
    · rw [if_neg c1, if_neg (show ¬ x0.toInt < 1000000 by omega)]
      exact ⟨0, rfl, Or.inl ⟨rfl, Or.inr c⟩, fun z => absurd z c⟩
end
theorem s_come (x0 x1 x2 x3 x4 : Int32) : Sp2 (fX3_come x0 x1 x2 x3 x4) (fX4_come x0 x1 x2 x3 x4) := by
  intro n h m hn ⟨G, R⟩
  have R0 := R.th0
  obtain ⟨r, q1, hr, -⟩ := come_rel R0.1 R0.2.1 R.2.2.1 x0 x1 x2 x3 x4
  obtain ⟨w0, -, qw, -⟩ := why_rel R0.rp R0.2.1 R.iq R.2.2.1.1.2.1 x1 x2 x3 x4
  have q1' : fX3_whyNotCome 2 x0 x1 x2 x3 x4 h = some (r, h) := q1
  unfold fX3_come fX4_come
  simp only [bd1]
  rw [e_st, q1', e_bd]
  rcases hr with ⟨z, y⟩ | ⟨z, ⟨w, y1, y2⟩, y3, w2, y4, y5⟩ | ⟨z, y1, y2, y3⟩ | ⟨z, y1, y2, y3, nm, a, b, c, d, z1, z2, z3, z4, z5, K, hnm, hno⟩
  · rw [z, if_neg (by decide)]
    by_cases c : w0 = 0
    · rw [qw, e_bd, if_pos c]
      exact R.no (w := 0) (by omega)
    · rcases y with y | y
      · rw [qw] at y
        injection y with y
        injection y with y
        exact absurd y c
      · rw [qw, e_bd, if_neg c, m_inl x0 0 999999 (by decide) (by decide), e_bd, ic e_c0, if_pos y]
        exact R.no (w := 0) (by omega)
  · have y3' : ¬ ¬ ((OfNat.ofNat 0 : Int) ≤ x0.toInt ∧ x0.toInt ≤ (OfNat.ofNat 999999 : Int)) := not_not_intro y3
    rw [z, if_neg (by decide), y1, e_bd, if_neg y2, m_inl x0 0 999999 (by decide) (by decide), e_bd, ic e_c0, if_neg y3', y4, e_bd, if_neg y5]
    exact R.no (w := 2) (by omega)
  · have y2' : ¬ ¬ ((OfNat.ofNat 0 : Int) ≤ x0.toInt ∧ x0.toInt ≤ (OfNat.ofNat 999999 : Int)) := not_not_intro y2
    rcases z with z | z
    · rw [z] at y1
      rw [z, if_neg (by decide), y1, e_bd, if_neg (by decide), m_inl x0 0 999999 (by decide) (by decide), e_bd, ic e_c0, if_neg y2', y3, e_bd, if_pos rfl, if_neg (by decide)]
      exact R.no (w := 3) (by omega)
    · rw [z] at y1
      rw [z, if_neg (by decide), y1, e_bd, if_neg (by decide), m_inl x0 0 999999 (by decide) (by decide), e_bd, ic e_c0, if_neg y2', y3, e_bd, if_pos rfl, if_neg (by decide)]
      exact R.no (w := 4) (by omega)
  · have y0' : ¬ ¬ ((OfNat.ofNat 0 : Int) ≤ x0.toInt ∧ x0.toInt ≤ (OfNat.ofNat 999999 : Int)) := not_not_intro (by
      have e : x0.toInt = (nm : Int) := by rw [z1]; exact nI_toInt (by omega)
      show 0 ≤ x0.toInt ∧ x0.toInt ≤ 999999
      omega)
    have hn0 := free_th y3
    have hf := y3
    obtain ⟨h2, q2, rq, e8, ek, -⟩ := c_takeIn (nm := nm) (b := b) (c := c) (d := d) R0.1 y3 K.2.1
    obtain ⟨m2, q3, M2⟩ := m_lay R0.2.1 hf nm a b c d
    have ii := lay_ii R.2.2.1 hf hn0 K hnm hno
    rw [z, if_pos rfl, y1, e_bd, if_neg (by decide), m_inl x0 0 999999 (by decide) (by decide), e_bd, ic e_c0, if_neg y0', y2, e_bd, if_pos rfl, if_pos rfl, m_freeNumber R0.2.1 R.iq, e_bd, z1, z2, z3, z4, z5, q2, q3, e_bd]
    exact ⟨_, _, _, rfl, rfl, _, R0.edit hn (j := 1) (by omega) (by omega) (fun k hk => ek k (by omega)) (by rw [ek 1 (by omega)]) e8 rq ii (M2.mx []) (by simp) (by simp) (by simp)⟩
