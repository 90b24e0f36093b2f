/-! ===== on paper: another plan ===== -/
def PB (N b : Nat) (G Gp : GR) (h m : th_H) : Prop := RelG N G h m ∧ RP 28 h Gp ∧ h.1 28 8 = nI (b + 1) ∧ SE (h.1 27 13) b ∧ SE (h.1 45 9) b ∧ b + 1 ≤ 100 * N
def PA (N b : Nat) (G Gp : GR) (h m : th_H) : Prop := RelG N G h m ∧ RP 28 h Gp ∧ h.1 28 8 = nI b ∧ SE (h.1 27 13) b ∧ SE (h.1 45 9) b ∧ b ≤ 100 * N
section
variable {n N b p w f : Nat} {h m h2 m2 : th_H} {G Gp Gp' : GR}
theorem PB.mod (P : PB N b G Gp h m) (rm : RM m2 G) (e1 : m2.1 1 = m.1 1) (e3 : m2.1 3 = m.1 3) (e4 : m2.1 4 = m.1 4) : PB N b G Gp h m2 := ⟨P.1.mod rm e1 e3 e4, P.2⟩
theorem PA.mod (P : PA N b G Gp h m) (rm : RM m2 G) (e1 : m2.1 1 = m.1 1) (e3 : m2.1 3 = m.1 3) (e4 : m2.1 4 = m.1 4) : PA N b G Gp h m2 := ⟨P.1.mod rm e1 e3 e4, P.2⟩
theorem sheet (R : RelG n G h m) : ∃ h2 b, fX3_newSheet h = some ((), h2) ∧ PB (n + 1) b G G h2 m ∧ b ≤ 100 * n ∧ (∀ c, (c < 28 ∨ 35 < c) → h2.1 c = h.1 c) := by
  obtain ⟨-, rm, -, -, -, ⟨a, b, f1, f2, f3, f4, f5, f6, f7, f8⟩, -, -, -⟩ := id R
  obtain ⟨h2, q, rp, -, e8, ej, ec, -⟩ := c_copyP (p := 28) (p2 := 2) R.rp (by omega)
  have hk : ∀ c, (c < 28 ∨ 35 < c) → h2.1 c = h.1 c := fun c hc => ec c (by omega)
  have e28 : h2.1 28 8 = nI (b + 1) := by rw [e8, f2, nI_1]
  unfold fX3_newSheet
  rw [q]
  refine ⟨h2, b, rfl, ⟨R.inc.pap (fun c hc => hk c (by omega)) e28 (by omega) ?_ ?_ rm rfl rfl rfl, rp, e28, ?_, ?_, by omega⟩, f4, hk⟩
  · rw [hk 27 (by omega)]; exact f7.up (by omega)
  · rw [hk 45 (by omega)]; exact f8.up (by omega)
  · rw [hk 27 (by omega)]; exact f7
  · rw [hk 45 (by omega)]; exact f8
theorem PB.edit (P : PB N b G Gp h m) (hk : ∀ c, (c < 28 ∨ 35 < c) → h2.1 c = h.1 c) (e8 : h2.1 28 8 = h.1 28 8 + 1) (rp : RP 28 h2 Gp') (hb : b + 2 ≤ 100 * N) : PB N (b + 1) G Gp' h2 m := by
  obtain ⟨R, -, p8, p27, p45, -⟩ := P
  have e28 : h2.1 28 8 = nI (b + 1 + 1) := by rw [e8, p8, nI_1]
  refine ⟨R.pap (fun c hc => hk c (by omega)) e28 (by omega) ?_ ?_ R.2.1 rfl rfl rfl, rp, e28, ?_, ?_, by omega⟩
  · rw [hk 27 (by omega)]; exact p27.up (by omega)
  · rw [hk 45 (by omega)]; exact p45.up (by omega)
  · rw [hk 27 (by omega)]; exact p27.up (by omega)
  · rw [hk 45 (by omega)]; exact p45.up (by omega)
theorem PA.edit (P : PA N b G Gp h m) (hk : ∀ c, (c < 28 ∨ 35 < c) → h2.1 c = h.1 c) (e8 : h2.1 28 8 = h.1 28 8 + 1) (rp : RP 28 h2 Gp') (hb : b + 1 ≤ 100 * N) : PB N b G Gp' h2 m := by
  obtain ⟨R, -, p8, p27, p45, -⟩ := P
  have e28 : h2.1 28 8 = nI (b + 1) := by rw [e8, p8, nI_1]
  refine ⟨R.pap (fun c hc => hk c (by omega)) e28 (by omega) ?_ ?_ R.2.1 rfl rfl rfl, rp, e28, ?_, ?_, by omega⟩
  · rw [hk 27 (by omega)]; exact p27.up (by omega)
  · rw [hk 45 (by omega)]; exact p45.up (by omega)
  · rw [hk 27 (by omega)]; exact p27
  · rw [hk 45 (by omega)]; exact p45
theorem PB.rise (P : PB N b G Gp h m) (hN : N ≤ 600) (I : IQ Gp) (B : IB Gp) : ∃ h2, fX2_rise 45 28 h = some ((), h2) ∧ FWt 45 Gp h2 ∧ PA N (b + 1) G Gp h2 m ∧ (∀ c, (c < 45 ∨ 52 < c) → h2.1 c = h.1 c) := by
  obtain ⟨R, rp, p8, p27, p45, hb⟩ := P
  obtain ⟨h2, q, F, e, Z⟩ := c_rise rp I B (show 28 + 8 ≤ 45 by omega) (fun z => by
    exfalso
    rw [p8] at z
    exact p45.ne (by omega) (by omega) z)
  have hk : ∀ c, (c < 45 ∨ 52 < c) → h2.1 c = h.1 c := fun c hc => Z.1 c (by omega)
  have e28 : h2.1 28 8 = nI (b + 1) := by rw [hk 28 (by omega)]; exact p8
  have s45 : SE (h2.1 45 9) (b + 1) := Or.inr ⟨b + 1, Nat.le_refl _, e.trans e28⟩
  have s27 : SE (h2.1 27 13) (b + 1) := by rw [hk 27 (by omega)]; exact p27.up (by omega)
  exact ⟨h2, q, F, ⟨R.pap (fun c hc => hk c (by omega)) e28 hb s27 s45 R.2.1 rfl rfl rfl, Z.rp (by omega) rp, e28, s27, s45, hb⟩, hk⟩
theorem PB.now (P : PB N b G Gp h m) : ∃ h2, fX2_rise 19 2 h = some ((), h2) ∧ FWt 19 G h2 ∧ PB N b G Gp h2 m ∧ (∀ c, (c < 19 ∨ 26 < c) → h2.1 c = h.1 c) := by
  obtain ⟨R, rp, p8, p27, p45, hb⟩ := P
  obtain ⟨rq, rm, ii, oc, fw, -, -, -, -⟩ := id R
  obtain ⟨h2, q, F, R2⟩ := R.rise
  obtain ⟨h3, q3, -, -, Z⟩ := c_rise R.rp ii.1.1 ii.1.2.1 (show 2 + 8 ≤ 19 by omega) fw
  have e : h2 = h3 := by
    have := q.symm.trans q3
    injection this with this
    injection this
  have hk : ∀ c, (c < 19 ∨ 26 < c) → h2.1 c = h.1 c := fun c hc => by rw [e]; exact Z.1 c (by omega)
  refine ⟨h2, q, F, ⟨R2, rp.off (fun c x y _ => hk c (by omega)) (by rw [hk 28 (by omega)]), ?_, ?_, ?_, hb⟩, hk⟩
  · rw [hk 28 (by omega)]; exact p8
  · rw [hk 27 (by omega)]; exact p27
  · rw [hk 45 (by omega)]; exact p45
theorem PA.now (P : PA N b G Gp h m) : ∃ h2, fX2_rise 19 2 h = some ((), h2) ∧ FWt 19 G h2 ∧ PA N b G Gp h2 m ∧ (∀ c, (c < 19 ∨ 26 < c) → h2.1 c = h.1 c) := by
  obtain ⟨R, rp, p8, p27, p45, hb⟩ := P
  obtain ⟨rq, rm, ii, oc, fw, -, -, -, -⟩ := id R
  obtain ⟨h2, q, F, R2⟩ := R.rise
  obtain ⟨h3, q3, -, -, Z⟩ := c_rise R.rp ii.1.1 ii.1.2.1 (show 2 + 8 ≤ 19 by omega) fw
  have e : h2 = h3 := by
    have := q.symm.trans q3
    injection this with this
    injection this
  have hk : ∀ c, (c < 19 ∨ 26 < c) → h2.1 c = h.1 c := fun c hc => by rw [e]; exact Z.1 c (by omega)
  refine ⟨h2, q, F, ⟨R2, rp.off (fun c x y _ => hk c (by omega)) (by rw [hk 28 (by omega)]), ?_, ?_, ?_, hb⟩, hk⟩
  · rw [hk 28 (by omega)]; exact p8
  · rw [hk 27 (by omega)]; exact p27
  · rw [hk 45 (by omega)]; exact p45
theorem c_rateOf (R : RP p h G) (F : FWt w G h) (I : IQ G) (B : IB G) (hf : f < 20) (ht : gTh G f = true) : fX2_rateOf w p (nI f) h = some (nI (gRate G f (gLv G f)), h) := by
  have hl := gLv_le I B f
  have hw : h.1 (w + 1) f = nI (gLv G f) := F.2.1 f hf
  unfold fX2_rateOf
  rw [c_has R hf, e_bd, if_pos ht, if_neg (by decide), e_rd hf (by omega), bd1, hw, c_rateBy R I hf ht (by omega)]
end
theorem s_would (x1 x2 x3 x4 : Int32) : Sp2 (fX3_would x1 x2 x3 x4) (fX4_would x1 x2 x3 x4) := by
  intro n h m hn ⟨G, R⟩
  have R0 := R.th0
  have I := R.2.2.1
  obtain ⟨r, q1, q2, hr⟩ := why_rel R0.rp R0.2.1 R.iq I.1.2.1 x1 x2 x3 x4
  unfold fX3_would fX4_would
  simp only [bd1]
  rw [e_st, q1, q2, e_bd, e_bd]
  by_cases z : r = -1
  · obtain ⟨hF, a, b, c, d, z1, z2, z3, z4, K⟩ : gFree G < 20 ∧ ∃ a b c d, x1 = nI a ∧ x2 = nI b ∧ x3 = nI c ∧ x4 = nI d ∧ OKF G a b c d := by
      rcases hr with y | y | y | y
      · rw [y] at z; exact absurd z (by decide)
      · rw [y] at z; exact absurd z (by decide)
      · rw [y] at z; exact absurd z (by decide)
      · exact y.2
    have hn0 := free_th hF
    have IQ' := lay_iq (nm := 0) R.iq hF K
    have IB' := lay_ib (nm := 0) R.iq I.1.2.1 hF hn0 K
    obtain ⟨h3, b0, q3, P3, hb, hk3⟩ := sheet R0
    obtain ⟨h4, q4, rp4, -, -, e8, ec, -⟩ := c_add (nm := 0) (b := b) (c := c) (d := d) P3.2.1 hF (-1) K.2.1
    have P4 := P3.edit (fun c hc => ec c (by omega)) e8 rp4 (by omega)
    obtain ⟨h5, q5, F5, P5, -⟩ := P4.rise (by omega) IQ' IB'
    obtain ⟨m4, t1, t2, t3, t4⟩ := m_think R0.2.1
    have rm4 : RM m4 G := R0.2.1.off (t3 2 (by omega))
    obtain ⟨m6, l1, l2⟩ := m_lay rm4 hF 0 a b c d
    obtain ⟨m7, y1, y2, y3⟩ := m_layFair l2.1 IQ' IB'
    have rm7 := y3.row l2.1
    obtain ⟨m9, u1, u2, u3, u4⟩ := m_end (G := G) (m := m7) (fun k hk => by rw [y3.1 5 (by omega) (by omega), l2.2.1 5 (by omega)]; exact t2 k hk)
    have l1' : fX4_lay (nI (gFree G)) 0 (nI a) (nI b) (nI c) (nI d) m4 = some ((), m6) := l1
    have me : ∀ k, k ≠ 0 → k ≠ 2 → k ≠ 5 → (k < 7 ∨ 13 < k) → m9.1 k = (th_up m 0 0 0).1 k := fun k k0 k2 k5 k7 => by rw [u3 k k2, y3.1 k k0 k7, l2.2.1 k k2, t3 k k5]
    rw [if_pos z, if_pos z, q3, e_bd, z1, z2, z3, z4, q4, e_bd, q5, e_bd, c_rateOf P5.2.1 F5 IQ' IB' hF lay_th, t1, e_bd, m_freeNumber rm4 R.iq, e_bd, l1', e_bd, y1, e_bd, m_fairRate rm7 y2 IQ' IB' hF lay_th, e_bd, u1, e_bd]
    exact ⟨_, _, _, rfl, rfl, G, P5.1.mod u2 (me 1 (by omega) (by omega) (by omega) (by omega)) (me 3 (by omega) (by omega) (by omega) (by omega)) (me 4 (by omega) (by omega) (by omega) (by omega))⟩
  · rw [if_neg z, if_neg z]
    exact ⟨_, _, _, rfl, rfl, G, R0.inc⟩
