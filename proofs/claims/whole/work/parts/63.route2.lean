/-! ===== route, both sides ===== -/
section
variable {q f a : Nat} {h h2 m : th_H} {G : GR}
def rtL (G : GR) (f a l : Nat) : GR := fun k => if 243 + 10 * f ≤ k ∧ k < 243 + 10 * f + l ∧ ((gPath G f).testBit (k - (243 + 10 * f)) && a.testBit (k - (243 + 10 * f))) = false then 1000000 else if 443 + 10 * f ≤ k ∧ k < 443 + 10 * f + l ∧ ((gPath G f).testBit (k - (443 + 10 * f)) && a.testBit (k - (443 + 10 * f))) = false then 1000000 else gu G (23 + 11 * f + 2) a k
theorem m_rt_c46 {h0 : th_H} (hf : f < 20) (ha : a < 1024) (hb : gPath G f < 1024) : ∀ d l fu h, l + d = 10 → d < fu → MF h0 h (rtL G f a l) → ∃ h2, fX4_reroute_c46 fu (nI f) (nI a) (nI (23 + 11 * f)) (nI (gPath G f)) (nI l) h = some (nI (fb_ct (frB a (gPath G f)) 20), th_up h2 2 (23 + 11 * f + 8) 0) ∧ MF h0 h2 (rtL G f a 10) := by
  intro d
  induction d with
  | zero =>
    intro l fu h hl hfu M
    obtain ⟨fu, rfl⟩ : ∃ z, fu = z + 1 := ⟨fu - 1, by omega⟩
    obtain rfl : l = 10 := by omega
    rw [fX4_reroute_c46, if_neg (by decide), e_addl, e_wr (by omega) (by omega), fr_bits ha hb, m_ones (Nat.lt_of_lt_of_le (mk_lt _ 20) (Nat.le_refl _)), e_bd, mk_ct]
    exact ⟨h, rfl, M⟩
  | succ d ih =>
    intro l fu h hl hfu M
    obtain ⟨fu, rfl⟩ : ∃ z, fu = z + 1 := ⟨fu - 1, by omega⟩
    have hl2 : l < 10 := by omega
    rw [fX4_reroute_c46, if_pos (show nI l < (10 : Int32) from nI_lt (a := l) (b := 10) hl2 (by omega)), e_bit (by omega) (by omega), e_bit (by omega) (by omega), ic e_c0, ic e_c0, nI_1]
    have yes : ((gPath G f).testBit l && a.testBit l) = false → ∃ h2, (th_bd (fX4_knowsNothing (nI f) (nI l) h) fun _u h3 => fX4_reroute_c46 fu (nI f) (nI a) (nI (23 + 11 * f)) (nI (gPath G f)) (nI (l + 1)) h3) = some (nI (fb_ct (frB a (gPath G f)) 20), th_up h2 2 (23 + 11 * f + 8) 0) ∧ MF h0 h2 (rtL G f a 10) := by
      intro z
      obtain ⟨h3, q3, M3⟩ := m_knowsNothing M hf hl2
      rw [q3, e_bd]
      refine ih (l + 1) fu h3 (by omega) (by omega) (M3.cong (fun k hk => ?_))
      unfold gu rtL
      by_cases c1 : k = 443 + 10 * f + l
      · rw [if_neg (by omega), if_pos ⟨by omega, by omega, by rw [c1, show 443 + 10 * f + l - (443 + 10 * f) = l by omega]; exact z⟩, if_pos c1]
      · rw [if_neg c1]
        by_cases c2 : k = 243 + 10 * f + l
        · rw [if_pos ⟨by omega, by omega, by rw [c2, show 243 + 10 * f + l - (243 + 10 * f) = l by omega]; exact z⟩, if_pos c2]
        · rw [if_neg c2]
          have e1 : (243 + 10 * f ≤ k ∧ k < 243 + 10 * f + (l + 1) ∧ ((gPath G f).testBit (k - (243 + 10 * f)) && a.testBit (k - (243 + 10 * f))) = false) = (243 + 10 * f ≤ k ∧ k < 243 + 10 * f + l ∧ ((gPath G f).testBit (k - (243 + 10 * f)) && a.testBit (k - (243 + 10 * f))) = false) := propext ⟨fun y => ⟨y.1, by omega, y.2.2⟩, fun y => ⟨y.1, by omega, y.2.2⟩⟩
          have e2 : (443 + 10 * f ≤ k ∧ k < 443 + 10 * f + (l + 1) ∧ ((gPath G f).testBit (k - (443 + 10 * f)) && a.testBit (k - (443 + 10 * f))) = false) = (443 + 10 * f ≤ k ∧ k < 443 + 10 * f + l ∧ ((gPath G f).testBit (k - (443 + 10 * f)) && a.testBit (k - (443 + 10 * f))) = false) := propext ⟨fun y => ⟨y.1, by omega, y.2.2⟩, fun y => ⟨y.1, by omega, y.2.2⟩⟩
          rw [ic e1, ic e2]
    by_cases c : (gPath G f).testBit l = true
    · rw [if_neg (not_not_intro c)]
      by_cases c2 : a.testBit l = true
      · rw [if_neg (not_not_intro c2)]
        refine ih (l + 1) fu h (by omega) (by omega) (M.cong (fun k hk => ?_))
        unfold rtL
        have e1 : (243 + 10 * f ≤ k ∧ k < 243 + 10 * f + (l + 1) ∧ ((gPath G f).testBit (k - (243 + 10 * f)) && a.testBit (k - (243 + 10 * f))) = false) = (243 + 10 * f ≤ k ∧ k < 243 + 10 * f + l ∧ ((gPath G f).testBit (k - (243 + 10 * f)) && a.testBit (k - (243 + 10 * f))) = false) := propext ⟨fun y => ⟨y.1, by
            by_cases z : k = 243 + 10 * f + l
            · have y2 := y.2.2
              rw [z, show 243 + 10 * f + l - (243 + 10 * f) = l by omega, c, c2] at y2
              cases y2
            · omega, y.2.2⟩, fun y => ⟨y.1, by omega, y.2.2⟩⟩
        have e2 : (443 + 10 * f ≤ k ∧ k < 443 + 10 * f + (l + 1) ∧ ((gPath G f).testBit (k - (443 + 10 * f)) && a.testBit (k - (443 + 10 * f))) = false) = (443 + 10 * f ≤ k ∧ k < 443 + 10 * f + l ∧ ((gPath G f).testBit (k - (443 + 10 * f)) && a.testBit (k - (443 + 10 * f))) = false) := propext ⟨fun y => ⟨y.1, by
            by_cases z : k = 443 + 10 * f + l
            · have y2 := y.2.2
              rw [z, show 443 + 10 * f + l - (443 + 10 * f) = l by omega, c, c2] at y2
              cases y2
            · omega, y.2.2⟩, fun y => ⟨y.1, by omega, y.2.2⟩⟩
        rw [ic e1, ic e2]
      · rw [if_pos c2]
        exact yes (by rw [show a.testBit l = false by simpa using c2, Bool.and_false])
    · rw [if_pos c]
      exact yes (by rw [show (gPath G f).testBit l = false by simpa using c, Bool.false_and])
theorem m_reroute (R : RM m G) (I : II G) (hf : f < 20) (ht : gTh G f = true) (ha : 0 < a) (ha2 : a < 1024) : (IB (gu G (23 + 11 * f + 2) a) ∧ ∃ m2, fX4_reroute (nI f) (nI a) m = some (nI (fb_ct (frB a (gPath G f)) 20), m2) ∧ MF m m2 (gRt G f a)) ∨ (¬ IB (gu G (23 + 11 * f + 2) a) ∧ fX4_reroute (nI f) (nI a) m = some (-1, m)) := by
  obtain ⟨-, hb, -⟩ := (I.1.1.2 f hf).2 ht
  have IQ' := pa_iq I.1.1 hf ht ha ha2
  have M : MF m (th_up m 2 (23 + 11 * f + 2) (nI a)) (gu G (23 + 11 * f + 2) a) := (MF.rf R).up
  have g2 : G (23 + 11 * f + 2) = gPath G f := rfl
  unfold fX4_reroute
  rw [m_at, e_bd, e_addl, m_row R (by omega), g2, e_wr (by omega) (by omega), m_isBound M.1 IQ', e_bd, ic e_c0, e_wr (by omega) (by omega)]
  by_cases c : al (fun l => decide (gBnd (gu G (23 + 11 * f + 2) a) l ≤ gCap (gu G (23 + 11 * f + 2) a) l)) 10 = true
  · left
    refine ⟨(ib_al IQ').mp c, ?_⟩
    rw [if_neg (not_not_intro c)]
    obtain ⟨m2, q2, M2⟩ := m_rt_c46 (G := G) hf ha2 hb 10 0 1000 _ (by omega) (by omega) (M.cong (G' := rtL G f a 0) (fun k _ => by unfold rtL; rw [if_neg (by omega), if_neg (by omega)]))
    have q2' : fX4_reroute_c46 1000 (nI f) (nI a) (nI (23 + 11 * f)) (nI (gPath G f)) 0 (th_up m 2 (23 + 11 * f + 2) (nI a)) = _ := q2
    rw [q2']
    refine ⟨_, rfl, (M2.up (k := 23 + 11 * f + 8) (v := 0)).cong (fun k hk => ?_)⟩
    unfold gRt gu rtL
    by_cases k8 : k = 23 + 11 * f + 8
    · rw [if_neg (by omega), if_pos k8, if_pos k8]
    · rw [if_neg k8, if_neg k8]
      by_cases k2 : k = 23 + 11 * f + 2
      · rw [if_pos k2, if_neg (by omega), if_neg (by omega)]
        unfold gu
        rw [if_pos k2]
      · rw [if_neg k2]
        have e1 : (243 + 10 * f ≤ k ∧ k < 253 + 10 * f ∧ ((gPath G f).testBit (k - (243 + 10 * f)) && a.testBit (k - (243 + 10 * f))) = false) = (243 + 10 * f ≤ k ∧ k < 243 + 10 * f + 10 ∧ ((gPath G f).testBit (k - (243 + 10 * f)) && a.testBit (k - (243 + 10 * f))) = false) := propext ⟨fun y => ⟨y.1, by omega, y.2.2⟩, fun y => ⟨y.1, by omega, y.2.2⟩⟩
        have e2 : (443 + 10 * f ≤ k ∧ k < 453 + 10 * f ∧ ((gPath G f).testBit (k - (443 + 10 * f)) && a.testBit (k - (443 + 10 * f))) = false) = (443 + 10 * f ≤ k ∧ k < 443 + 10 * f + 10 ∧ ((gPath G f).testBit (k - (443 + 10 * f)) && a.testBit (k - (443 + 10 * f))) = false) := propext ⟨fun y => ⟨y.1, by omega, y.2.2⟩, fun y => ⟨y.1, by omega, y.2.2⟩⟩
        rw [ic e1, ic e2]
        unfold gu
        rw [if_neg k2]
  · right
    refine ⟨fun z => c ((ib_al IQ').mpr z), ?_⟩
    rw [if_pos c, up_up, up_self (show m.1 2 (23 + 11 * f + 2) = nI (gPath G f) from R _ (by omega))]
theorem room_route (I : II G) (hf : f < 20) (ht : gTh G f = true) (ha2 : a < 1024) : al (fun l => !(mk (frB a (gPath G f)) 20).testBit l || !decide (nI (gCap G l) < nI (gBnd G l) + nI (gLeast G f))) 10 = al (fun l => decide (gBnd (gu G (23 + 11 * f + 2) a) l ≤ gCap (gu G (23 + 11 * f + 2) a) l)) 10 := by
  refine al_cong (fun l hl => ?_)
  have Y : FLX f G (gu G (23 + 11 * f + 2) a) := FLX.one (by omega)
  have hb := Y.bnd hf l
  have hc : gCap G l ≤ 1000000 := I.1.1.1 l hl
  have hB := I.1.2.1 l hl
  obtain ⟨a1, a2, a3, a4, a5, a6⟩ := (I.1.1.2 f hf).2 ht
  have e4 : gLeast (gu G (23 + 11 * f + 2) a) f = gLeast G f := gu_ne (by omega)
  have eo : gOv G f l = (gPath G f).testBit l := by unfold gOv; rw [ht]; rfl
  unfold ctb at hb
  rw [pa_ov ht, e4, eo] at hb
  rw [Y.cap hl, mk20_bit _ (by omega)]
  unfold frB
  cases x : a.testBit l with
  | false =>
    rw [x, if_neg (show ¬ false = true by decide)] at hb
    rw [Bool.false_and, Bool.not_false, Bool.true_or]
    exact (decide_eq_true (by omega)).symm
  | true =>
    rw [x, if_pos rfl] at hb
    cases y : (gPath G f).testBit l with
    | true =>
      rw [y, if_pos rfl] at hb
      rw [Bool.not_true, Bool.and_false, Bool.not_false, Bool.true_or]
      exact (decide_eq_true (by omega)).symm
    | false =>
      rw [y, if_neg (show ¬ false = true by decide)] at hb
      have hB' : gBnd (gu G (23 + 11 * f + 2) a) l = gBnd G l + gLeast G f := by omega
      rw [Bool.not_false, Bool.and_true, Bool.not_true, Bool.false_or, nI_add, hB', Bool.eq_iff_iff, Bool.not_eq_true', decide_eq_false_iff_not, decide_eq_true_eq, e_lt (by omega) (by omega)]
      omega
end
theorem s_route (x y : Int32) : Sp2 (fX3_route x y) (fX4_route x y) := by
  intro n h m hn ⟨G, R⟩
  have R0 := R.th0
  have I := R.2.2.1
  unfold fX3_route fX4_route fX3_whyNotRoute
  simp only [bd1]
  rw [c_isPath, e_bd, e_st, m_areLinks, e_bd, ic e_c0, ic e_c0]
  by_cases c : 1 ≤ y.toInt ∧ y.toInt ≤ 1023
  · rw [if_neg (not_not_intro c), if_neg (not_not_intro c)]
    obtain ⟨a, ha, e⟩ := rng (x := y) (n := 1024) (by omega) (by omega)
    subst e
    rw [nI_toInt (by omega)] at c
    rcases R0.flow x with ⟨a1, b1⟩ | ⟨f, hf, e, ht, a1, b1⟩
    · rw [a1, b1, e_bd, e_bd, if_pos rfl, if_pos rfl, e_bd, if_neg (show ¬ (1 : Int32) = -1 by decide)]
      exact R.no (w := 1) (by omega)
    · obtain ⟨i1, i2, i3, i4, i5, i6⟩ := (R.iq.2 f hf).2 ht
      have e6 : h.1 6 f = nI (gPath G f) := by
        have := R.rp.2.2.1 f hf
        rw [if_pos ht] at this
        exact this
      have e8 : h.1 8 f = nI (gLeast G f) := (R.rp.2.2.2.1 f hf ht).2.1
      have g2 : G (23 + 11 * f + 2) = gPath G f := rfl
      rw [a1, b1, e_bd, e_bd, if_neg (show ¬ (1 : Int32) = 0 by decide), if_neg (show ¬ (1 : Int32) = 0 by decide), e, e_rd hf (by omega), e6, m_at, e_bd, e_addl, m_row R0.2.1 (by omega), g2, ic (e_eq (show gPath G f < 2147483648 by omega) (show a < 2147483648 by omega)), ic (e_eq (show gPath G f < 2147483648 by omega) (show a < 2147483648 by omega))]
      by_cases k : gPath G f = a
      · rw [if_pos k, if_pos k, e_bd, if_neg (show ¬ (2 : Int32) = -1 by decide)]
        exact R.no (w := 2) (by omega)
      · rw [if_neg k, if_neg k, e_rd hf (by omega), e6, e_rd hf (by omega), e8, fr_bits ha i2, c_hasRoom R.rp R.iq (fr_lt ha), e_bd, ic (bI_0 _), room_route I hf ht ha]
        have IQ' := pa_iq R.iq hf ht (show 0 < a by omega) ha
        rcases m_reroute R0.2.1 I hf ht (show 0 < a by omega) ha with ⟨B', m2, q3, M2⟩ | ⟨B', q3⟩
        · have b := (ib_al IQ').mpr B'
          obtain ⟨h2, q2, rq, e8', e13, ec, -⟩ := c_reroute R0.1 I hf ht ha
          have ii := rt_ii I hf ht (show 0 < a by omega) ha B'
          have hct : fb_ct (frB a (gPath G f)) 20 ≤ 20 := fb_ct_le _ 20
          rw [if_neg (by rw [b]; decide), e_bd, if_pos rfl, e_rd hf (by omega), e6, q2, e_bd, fr_bits ha i2, bits_mk, q3, e_bd, if_neg (by rw [e_ne1 (by omega)]; exact id)]
          exact ⟨_, _, _, rfl, rfl, _, R0.edit hn (j := 1) (by omega) (by omega) (fun k hk => ec k (by omega)) e13 e8' rq ii (M2.mx []) (by simp) (by simp) (by simp)⟩
        · have b : ¬ al (fun l => decide (gBnd (gu G (23 + 11 * f + 2) a) l ≤ gCap (gu G (23 + 11 * f + 2) a) l)) 10 = true := fun z => B' ((ib_al IQ').mp z)
          rw [if_pos (by simpa using b), e_bd, if_neg (show ¬ (4 : Int32) = -1 by decide), q3, e_bd, if_pos rfl]
          exact R.no (w := 4) (by omega)
  · rw [if_pos c, if_pos c, e_bd, if_neg (show ¬ (0 : Int32) = -1 by decide)]
    exact R.no (w := 0) (by omega)
