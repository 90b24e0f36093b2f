/-! ===== better, spares, without, weightFor ===== -/
def PA0 (N b : Nat) (G : GR) (h m : th_H) : Prop := RelG N G h m ∧ h.1 28 8 = nI b ∧ SE (h.1 27 13) b ∧ SE (h.1 45 9) b ∧ b ≤ 100 * N
section
variable {n N b p w f : Nat} {h m h2 m2 : th_H} {G Gp Gp' : GR}
theorem PB.pa (P : PB N b G Gp h m) : PA N (b + 1) G Gp h m := ⟨P.1, P.2.1, P.2.2.1, P.2.2.2.1.up (by omega), P.2.2.2.2.1.up (by omega), P.2.2.2.2.2⟩
theorem PA.pa0 (P : PA N b G Gp h m) : PA0 N b G h m := ⟨P.1, P.2.2⟩
theorem RelG.pa0 (R : RelG n G h m) : ∃ b, b ≤ 100 * n ∧ PA0 (n + 1) b G h m := by
  obtain ⟨-, -, -, -, -, ⟨a, b, f1, f2, f3, f4, f5, f6, f7, f8⟩, -, -, -⟩ := id R
  exact ⟨b, f4, R.inc, f2, f7, f8, by omega⟩
theorem PA0.sheet (P : PA0 N b G h m) (hb : b + 1 ≤ 100 * N) : ∃ h2, fX3_newSheet h = some ((), h2) ∧ PB N b G G h2 m ∧ (∀ c, (c < 28 ∨ 35 < c) → h2.1 c = h.1 c) := by
  obtain ⟨R, p8, p27, p45, -⟩ := P
  obtain ⟨h2, q, rp, -, e8, ej, ec, -⟩ := c_copyP (p := 28) (p2 := 2) R.rp (by omega)
  have hk : ∀ c, (c < 28 ∨ 35 < c) → h2.1 c = h.1 c := fun c hc => ec c (by omega)
  have e28 : h2.1 28 8 = nI (b + 1) := by rw [e8, p8, nI_1]
  unfold fX3_newSheet
  rw [q]
  refine ⟨h2, rfl, ⟨R.pap (fun c hc => hk c (by omega)) e28 (by omega) ?_ ?_ R.2.1 rfl rfl rfl, rp, e28, ?_, ?_, by omega⟩, hk⟩
  · rw [hk 27 (by omega)]; exact p27.up (by omega)
  · rw [hk 45 (by omega)]; exact p45.up (by omega)
  · rw [hk 27 (by omega)]; exact p27
  · rw [hk 45 (by omega)]; exact p45
/-- the reference's thought: another row meanwhile -/
theorem m_thought (A : ∀ k, k < 643 → m2.1 5 k = nI (G k)) (hm : ∀ k, k = 1 ∨ k = 3 ∨ k = 4 → m2.1 k = m.1 k) : ∃ m3, fX4_endThought m2 = some ((), m3) ∧ RM m3 G ∧ m3.1 1 = m.1 1 ∧ m3.1 3 = m.1 3 ∧ m3.1 4 = m.1 4 ∧ (∀ c, c ≠ 2 → m3.1 c = m2.1 c) := by
  obtain ⟨m3, u1, u2, u3, u4⟩ := m_end A
  exact ⟨m3, u1, u2, by rw [u3 1 (by omega), hm 1 (by omega)], by rw [u3 3 (by omega), hm 3 (by omega)], by rw [u3 4 (by omega), hm 4 (by omega)], u3⟩
theorem gRs_minus {P : Nat → Bool} (hf : f < 20) (hp : P f = true) : gRs G (fun g => P g && !(g == f)) + gRate G f (gLv G f) = gRs G P := by
  have h1 := fb_sm_upd (fun g => if P g = true then gRate G g (gLv G g) else 0) 0 (i := f) (n := 20) hf
  have e : gRs G (fun g => P g && !(g == f)) = fb_sm (fun k => if k = f then 0 else if P k = true then gRate G k (gLv G k) else 0) 20 := fb_sm_cong (fun g _ => by
    by_cases z : g = f
    · rw [if_pos z, z, if_neg (by simp)]
    · have z2 : (g == f) = false := by simpa using z
      show (if (P g && !(g == f)) = true then gRate G g (gLv G g) else 0) = _
      rw [if_neg z, z2, Bool.not_false, Bool.and_true])
  have e2 : gRs G P = fb_sm (fun g => if P g = true then gRate G g (gLv G g) else 0) 20 := rfl
  rw [e, e2]
  have h2 : (if P f = true then gRate G f (gLv G f) else 0) = gRate G f (gLv G f) := if_pos hp
  have h3 : fb_sm (fun k => if k = f then 0 else if P k = true then gRate G k (gLv G k) else 0) 20 + (if P f = true then gRate G f (gLv G f) else 0) = fb_sm (fun g => if P g = true then gRate G g (gLv G g) else 0) 20 + 0 := h1
  rw [h2] at h3
  omega
end
theorem s_better (x y : Int32) : Sp2 (fX3_better x y) (fX4_better x y) := by
  intro n h m hn ⟨G, R⟩
  have R0 := R.th0
  have I := R.2.2.1
  unfold fX3_better fX4_better fX3_whyNotRoute
  simp only [bd1]
  rw [c_isPath, e_bd, e_st, m_areLinks, e_bd, ic e_c0, ic e_c0]
  by_cases c : 1 ≤ y.toInt ∧ y.toInt ≤ 1023
  · rw [if_neg (not_not_intro c), if_neg (not_not_intro c)]
    obtain ⟨a, ha, e⟩ := rng (x := y) (n := 1024) (by omega) (by omega)
    subst e
    rw [nI_toInt (by omega)] at c
    rcases R0.flow x with ⟨a1, b1⟩ | ⟨f, hf, e, ht, a1, b1⟩
    · rw [a1, b1, e_bd, e_bd, if_pos rfl, if_pos rfl, e_bd, if_neg (show ¬ (1 : Int32) = -1 by decide), if_neg (show ¬ (1 : Int32) = 2 by decide)]
      exact ⟨_, _, _, rfl, rfl, G, R0.inc⟩
    · obtain ⟨i1, i2, i3, i4, i5, i6⟩ := (R.iq.2 f hf).2 ht
      have e6 : h.1 6 f = nI (gPath G f) := by
        have := R.rp.2.2.1 f hf
        rw [if_pos ht] at this
        exact this
      have e8 : h.1 8 f = nI (gLeast G f) := (R.rp.2.2.2.1 f hf ht).2.1
      have IQ' := pa_iq R.iq hf ht (show 0 < a by omega) ha
      obtain ⟨m4, t1, t2, t3, t4⟩ := m_think R0.2.1
      have rm4 : RM m4 G := R0.2.1.off (t3 2 (by omega))
      rw [a1, b1, e_bd, e_bd, if_neg (show ¬ (1 : Int32) = 0 by decide), if_neg (show ¬ (1 : Int32) = 0 by decide), e, e_rd hf (by omega), e6, t1, e_bd, ic (e_eq (show gPath G f < 2147483648 by omega) (show a < 2147483648 by omega)), e_rd hf (by omega), e6, e_rd hf (by omega), e8, fr_bits ha i2, c_hasRoom R.rp R.iq (fr_lt ha), e_bd, ic (bI_0 _), room_route I hf ht ha]
      have good : IB (gu G (23 + 11 * f + 2) a) → ∀ r : Int32, (r = -1 ∨ r = 2) → ∃ r' h2 m2, (th_bd (some (r, h)) fun u1 h1 => if u1 = -1 then th_bd (fX3_newSheet h1) fun _u3 h3 => th_bd (fX0_setPath 28 (nI f) (nI a) h3) fun _u4 h4 => th_bd (fX2_rise 45 28 h4) fun _u5 h5 => fX2_rateOf 45 28 (nI f) h5 else if u1 = 2 then th_bd (fX3_newSheet h1) fun _u8 h8 => th_bd (fX0_setPath 28 (nI f) (nI a) h8) fun _u9 h9 => th_bd (fX2_rise 45 28 h9) fun _u10 h10 => fX2_rateOf 45 28 (nI f) h10 else some (-1, h1)) = some (r', h2) ∧ (th_bd (fX4_reroute (nI f) (nI a) m4) fun u7 h7 => if u7 = -1 then fX4_better_c41 (nI f) 0 h7 else fX4_better_c41 (nI f) 1 h7) = some (r', m2) ∧ Rel (n + 1) h2 m2 := by
        intro B' r hr
        obtain ⟨h3, b0, q3, P3, hb, hk3⟩ := sheet R0
        obtain ⟨h4, q4, rp4, -, e28, ej, ec, -⟩ := rt_rp (p := 28) P3.2.1 hf ht ha
        have ii := rt_ii I hf ht (show 0 < a by omega) ha B'
        have P4 := P3.edit (fun c hc => ec c (by omega) (by omega) (by omega)) e28 rp4 (by omega)
        obtain ⟨h5, q5, F5, P5, -⟩ := P4.rise (by omega) ii.1.1 ii.1.2.1
        have ht' : gTh (gRt G f a) f = true := by rw [rt_th hf]; exact ht
        rcases m_reroute rm4 I hf ht (show 0 < a by omega) ha with ⟨-, m6, l1, l2⟩ | ⟨B2, -⟩
        · obtain ⟨m7, y1, y2, y3⟩ := m_layFair l2.1 ii.1.1 ii.1.2.1
          have rm7 := y3.row l2.1
          obtain ⟨m9, u1, u2, v1, v3, v4, -⟩ := m_thought (G := G) (m := th_up m 0 0 0) (m2 := m7) (fun k hk => by rw [y3.1 5 (by omega) (by omega), l2.2.1 5 (by omega)]; exact t2 k hk) (fun k hk => by rw [y3.1 k (by omega) (by omega), l2.2.1 k (by omega), t3 k (by omega)])
          have hct : fb_ct (frB a (gPath G f)) 20 ≤ 20 := fb_ct_le _ 20
          have cs : (th_bd (fX3_newSheet h) fun _u3 h3 => th_bd (fX0_setPath 28 (nI f) (nI a) h3) fun _u4 h4 => th_bd (fX2_rise 45 28 h4) fun _u5 h5 => fX2_rateOf 45 28 (nI f) h5) = some (nI (gRate (gRt G f a) f (gLv (gRt G f a) f)), h5) := by
            rw [q3, e_bd, q4, e_bd, q5, e_bd, c_rateOf P5.2.1 F5 ii.1.1 ii.1.2.1 hf ht']
          rw [e_bd, cs, l1, e_bd, if_neg (show ¬ nI (fb_ct (frB a (gPath G f)) 20) = -1 by rw [e_ne1 (by omega)]; exact id)]
          unfold fX4_better_c41
          rw [y1, e_bd, if_neg (show ¬ (1 : Int32) = 0 by decide), m_fairRate rm7 y2 ii.1.1 ii.1.2.1 hf ht', e_bd, u1, e_bd]
          have fin : ∃ r' h2 m2, some (nI (gRate (gRt G f a) f (gLv (gRt G f a) f)), h5) = some (r', h2) ∧ some (nI (gRate (gRt G f a) f (gLv (gRt G f a) f)), m9) = some (r', m2) ∧ Rel (n + 1) h2 m2 := ⟨_, _, _, rfl, rfl, G, P5.1.mod u2 v1 v3 v4⟩
          rcases hr with hr | hr
          · rw [if_pos hr]; exact fin
          · rw [if_neg (by rw [hr]; decide), if_pos hr]; exact fin
        · exact absurd B' B2
      by_cases k : gPath G f = a
      · rw [if_pos k]
        have B' : IB (gu G (23 + 11 * f + 2) a) := by rw [gu_same (show G (23 + 11 * f + 2) = a from k)]; exact I.1.2.1
        exact good B' 2 (Or.inr rfl)
      · rw [if_neg k]
        by_cases b : al (fun l => decide (gBnd (gu G (23 + 11 * f + 2) a) l ≤ gCap (gu G (23 + 11 * f + 2) a) l)) 10 = true
        · rw [if_neg (by rw [b]; decide)]
          exact good ((ib_al IQ').mp b) (-1) (Or.inl rfl)
        · rw [if_pos (by simpa using b), e_bd, if_neg (show ¬ (4 : Int32) = -1 by decide), if_neg (show ¬ (4 : Int32) = 2 by decide)]
          rcases m_reroute rm4 I hf ht (show 0 < a by omega) ha with ⟨B', -⟩ | ⟨-, l1⟩
          · exact absurd ((ib_al IQ').mpr B') b
          · obtain ⟨m7, y1, y2, y3⟩ := m_layFair rm4 R.iq I.1.2.1
            obtain ⟨m9, u1, u2, v1, v3, v4, -⟩ := m_thought (G := G) (m := th_up m 0 0 0) (m2 := m7) (fun k hk => by rw [y3.1 5 (by omega) (by omega)]; exact t2 k hk) (fun k hk => by rw [y3.1 k (by omega) (by omega), t3 k (by omega)])
            rw [l1, e_bd, if_pos rfl]
            unfold fX4_better_c41
            rw [y1, e_bd, if_pos rfl, u1, e_bd]
            exact ⟨_, _, _, rfl, rfl, G, R0.inc.mod u2 v1 v3 v4⟩
  · rw [if_pos c, if_pos c, e_bd, if_neg (show ¬ (0 : Int32) = -1 by decide), if_neg (show ¬ (0 : Int32) = 2 by decide)]
    exact ⟨_, _, _, rfl, rfl, G, R0.inc⟩
theorem s_spares (x y : Int32) : Sp2 (fX3_spares x y) (fX4_spares x y) := by
  intro n h m hn ⟨G, R⟩
  have R0 := R.th0
  have I := R.2.2.1
  unfold fX3_spares fX4_spares
  rw [e_st]
  rcases R0.flow x with ⟨a1, b1⟩ | ⟨f, hf, e, ht, a1, b1⟩
  · rw [a1, b1, e_bd, e_bd, if_pos rfl, if_pos rfl]
    exact ⟨_, _, _, rfl, rfl, G, R0.inc⟩
  · obtain ⟨i1, i2, i3, i4, i5, i6⟩ := (R.iq.2 f hf).2 ht
    have e8 : h.1 8 f = nI (gLeast G f) := (R.rp.2.2.2.1 f hf ht).2.1
    have g4 : G (23 + 11 * f + 4) = gLeast G f := rfl
    rw [a1, b1, e_bd, e_bd, if_neg (show ¬ (1 : Int32) = 0 by decide), if_neg (show ¬ (1 : Int32) = 0 by decide), e, c_isAmount, e_bd, ic e_c0, e_rd hf (by omega), e8, m_at, e_bd, e_addl, m_row R0.2.1 (by omega), g4, nI_l (by omega), show (1000000 : Int64) = lN 1000000 from rfl, m_in y (gLeast G f) 1000000 (by omega) (by omega), e_bd, ic e_c0]
    by_cases c : 0 ≤ y.toInt ∧ y.toInt ≤ 1000000
    · obtain ⟨v, hv, e⟩ := rng (x := y) (n := 1000001) (by omega) (by omega)
      subst e
      rw [if_neg (not_not_intro c), ic (e_lt (show v < 2147483648 by omega) (show gLeast G f < 2147483648 by omega)), nI_toInt (show v < 2147483648 by omega)]
      by_cases k : v < gLeast G f
      · rw [if_pos k, if_pos (show ¬ ((gLeast G f : Int) ≤ (v : Int) ∧ (v : Int) ≤ ((1000000 : Nat) : Int)) by omega)]
        exact ⟨_, _, _, rfl, rfl, G, R0.inc⟩
      · rw [if_neg k, if_neg (show ¬ ¬ ((gLeast G f : Int) ≤ (v : Int) ∧ (v : Int) ≤ ((1000000 : Nat) : Int)) by omega)]
        have X : FLX f G (gu G (23 + 11 * f + 3 + 2) v) := pt_x (by omega)
        have IQ' := part_iq I hf (w := 2) (v := v) (by omega) (by rw [if_neg (by omega)]; omega) (fun z => by omega) (fun _ => by omega) ht
        have IB' : IB (gu G (23 + 11 * f + 3 + 2) v) := X.ib hf I.1.2.1 (fun l _ => by
          obtain ⟨-, y2, -⟩ := pt_val (G := G) (f := f) 2 v
          rw [if_neg (by omega)] at y2
          unfold ctb
          rw [pt_ov, y2]
          exact Nat.le_refl _)
        have th' : ∀ g, g < 20 → gTh (gu G (23 + 11 * f + 3 + 2) v) g = gTh G g := fun g hg => by
          by_cases z : g = f
          · rw [z, pt_th]
          · exact X.th hf hg z
        have ht' : gTh (gu G (23 + 11 * f + 3 + 2) v) f = true := by rw [th' f hf]; exact ht
        obtain ⟨h7, b0, q7, P7, hb, hk7⟩ := sheet R0
        obtain ⟨h8, q8, rp8, e28, ej, ec, -⟩ := c_setPart (v := v) (w := 2) P7.2.1 hf (by omega)
        have q8' : fX0_setPart 28 (nI f) 2 (nI v) h7 = some ((), h8) := q8
        have P8 := P7.edit (fun c hc => ec c (by omega) (by omega)) e28 rp8 (by omega)
        obtain ⟨h9, q9, F9, P9, -⟩ := P8.now
        obtain ⟨h10, q10, F10, P10, hk10⟩ := P9.rise (by omega) IQ' IB'
        have F9' : FWt 19 G h10 := FW.cells F9 (fun c a b => hk10 c (by omega))
        have v7 : h10.1 2 7 = nI (mk (gTh G) 20) := P10.1.rp.2.2.2.2
        obtain ⟨m8, y1, y2, y3⟩ := m_layFair R0.2.1 R.iq I.1.2.1
        have rm8 := y3.row R0.2.1
        obtain ⟨m11, t1, t2, t3, t4⟩ := m_think rm8
        have rm11 : RM m11 G := rm8.off (t3 2 (by omega))
        have M13 : MF m11 (th_up m11 2 (23 + 11 * f + 3 + 2) (nI v)) (gu G (23 + 11 * f + 3 + 2) v) := (MF.rf rm11).up
        obtain ⟨m14, z1, z2, z3⟩ := m_layFair M13.1 IQ' IB'
        have rm14 := z3.row M13.1
        obtain ⟨m17, u1, u2, v1, v3, v4, -⟩ := m_thought (G := G) (m := th_up m 0 0 0) (m2 := m14) (fun k hk => by rw [z3.1 5 (by omega) (by omega), M13.2.1 5 (by omega)]; exact t2 k hk) (fun k hk => by rw [z3.1 k (by omega) (by omega), M13.2.1 k (by omega), t3 k (by omega), y3.1 k (by omega) (by omega)])
        have g1 := gRs_minus (G := G) (P := gTh G) hf ht
        have g2 := gRs_minus (G := gu G (23 + 11 * f + 3 + 2) v) (P := gTh (gu G (23 + 11 * f + 3 + 2) v)) hf ht'
        have g3 : gRs (gu G (23 + 11 * f + 3 + 2) v) (fun g => gTh (gu G (23 + 11 * f + 3 + 2) v) g && !(g == f)) = gRs (gu G (23 + 11 * f + 3 + 2) v) (fun g => gTh G g && !(g == f)) := fb_sm_cong (fun g hg => by
          show (if (gTh (gu G (23 + 11 * f + 3 + 2) v) g && !(g == f)) = true then gRate (gu G (23 + 11 * f + 3 + 2) v) g (gLv (gu G (23 + 11 * f + 3 + 2) v) g) else 0) = (if (gTh G g && !(g == f)) = true then gRate (gu G (23 + 11 * f + 3 + 2) v) g (gLv (gu G (23 + 11 * f + 3 + 2) v) g) else 0)
          rw [th' g hg])
        have z1' : fX4_layFair (th_up m11 2 (23 + 11 * f + 5) (nI v)) = some ((), m14) := z1
        rw [q7, e_bd, q8', e_bd, q9, e_bd, q10, e_bd, v7, off_bit hf, c_ratesOf P10.2.1 F10 IQ' IB' (fun g hg hx => by rw [th' g hg]; exact ((Bool.and_eq_true _ _).mp hx).1), e_bd, c_ratesOf P10.1.rp F9' R.iq I.1.2.1 (fun g hg hx => ((Bool.and_eq_true _ _).mp hx).1), e_bd, y1, e_bd, m_allRates rm8 y2 R.iq I.1.2.1, e_bd, m_fairRate rm8 y2 R.iq I.1.2.1 hf ht, e_bd, t1, e_bd, m_at, e_bd, e_addl, e_wr (by omega) (by omega), z1', e_bd, m_allRates rm14 z2 IQ' IB', e_bd, m_fairRate rm14 z2 IQ' IB' hf ht', e_bd, u1, e_bd, pk_sub (show gRate (gu G (23 + 11 * f + 3 + 2) v) f (gLv (gu G (23 + 11 * f + 3 + 2) v) f) ≤ gRs (gu G (23 + 11 * f + 3 + 2) v) (gTh (gu G (23 + 11 * f + 3 + 2) v)) by omega), pk_sub (show gRate G f (gLv G f) ≤ gRs G (gTh G) by omega), show gRs (gu G (23 + 11 * f + 3 + 2) v) (gTh (gu G (23 + 11 * f + 3 + 2) v)) - gRate (gu G (23 + 11 * f + 3 + 2) v) f (gLv (gu G (23 + 11 * f + 3 + 2) v) f) = gRs (gu G (23 + 11 * f + 3 + 2) v) (fun g => gTh G g && !(g == f)) by omega, show gRs G (gTh G) - gRate G f (gLv G f) = gRs G (fun g => gTh G g && !(g == f)) by omega]
        exact ⟨_, _, _, rfl, rfl, G, P10.1.mod u2 v1 v3 v4⟩
    · rw [if_pos c, if_pos (show ¬ ((gLeast G f : Int) ≤ y.toInt ∧ y.toInt ≤ ((1000000 : Nat) : Int)) by omega)]
      exact ⟨_, _, _, rfl, rfl, G, R0.inc⟩
theorem s_without (x y : Int32) : Sp2 (fX3_without x y) (fX4_without x y) := by
  intro n h m hn ⟨G, R⟩
  have R0 := R.th0
  have I := R.2.2.1
  unfold fX3_without fX4_without
  rw [e_st]
  rcases R0.flow x with ⟨a1, b1⟩ | ⟨f, hf, e, ht, a1, b1⟩
  · rw [a1, b1, e_bd, e_bd, if_pos rfl, if_pos rfl]
    exact ⟨_, _, _, rfl, rfl, G, R0.inc⟩
  · rw [a1, b1, e_bd, e_bd, if_neg (show ¬ (1 : Int32) = 0 by decide), if_neg (show ¬ (1 : Int32) = 0 by decide)]
    rcases R0.flow y with ⟨a2, b2⟩ | ⟨g, hg, e2, htg, a2, b2⟩
    · rw [a2, b2, e_bd, e_bd, if_pos rfl, if_pos rfl]
      exact ⟨_, _, _, rfl, rfl, G, R0.inc⟩
    · rw [a2, b2, e_bd, e_bd, if_neg (show ¬ (1 : Int32) = 0 by decide), if_neg (show ¬ (1 : Int32) = 0 by decide), e, e2, ic (e_eq (show f < 2147483648 by omega) (show g < 2147483648 by omega)), ic (e_eq (show f < 2147483648 by omega) (show g < 2147483648 by omega))]
      by_cases k : f = g
      · rw [if_pos k, if_pos k]
        exact ⟨_, _, _, rfl, rfl, G, R0.inc⟩
      · rw [if_neg k, if_neg k]
        have ii := gone_ii I hf
        have X : FLX f G (gu G (23 + 11 * f) 0) := gone_x
        have htg' : gTh (gu G (23 + 11 * f) 0) g = true := by rw [X.th hf hg (fun z => k z.symm)]; exact htg
        obtain ⟨h6, b0, q6, P6, hb, hk6⟩ := sheet R0
        obtain ⟨h7, q7, rp7, e28, ej, ec, -⟩ := c_remove P6.2.1 hf
        have P7 := P6.edit (fun c hc => ec c (by omega) (by omega) (by omega)) e28 rp7 (by omega)
        obtain ⟨h8, q8, F8, P8, -⟩ := P7.now
        obtain ⟨h9, q9, F9, P9, hk9⟩ := P8.rise (by omega) ii.1.1 ii.1.2.1
        have F8' : FWt 19 G h9 := FW.cells F8 (fun c a b => hk9 c (by omega))
        obtain ⟨m7, y1, y2, y3⟩ := m_layFair R0.2.1 R.iq I.1.2.1
        have rm7 := y3.row R0.2.1
        have M10 : MF m7 (th_up m7 2 (23 + 11 * f) (nI 0)) (gu G (23 + 11 * f) 0) := (MF.rf rm7).up
        obtain ⟨m11, z1, z2, z3⟩ := m_layFair M10.1 ii.1.1 ii.1.2.1
        have rm11 := z3.row M10.1
        have z1' : fX4_layFair (th_up m7 2 (23 + 11 * f) 0) = some ((), m11) := z1
        have rm14 : RM (th_up m11 2 (23 + 11 * f) 1) G := by
          have := rm11.up (k := 23 + 11 * f) (v := 1)
          intro j hj
          have h1 := this j hj
          rw [show nI 1 = (1 : Int32) from rfl] at h1
          rw [h1]
          unfold gu
          by_cases z : j = 23 + 11 * f
          · rw [if_pos z, z]
            have : G (23 + 11 * f) = 1 := by rw [gTh_iff]; exact ht
            rw [this]
          · rw [if_neg z, if_neg z]
        have me : ∀ j, j = 1 ∨ j = 3 ∨ j = 4 → (th_up m11 2 (23 + 11 * f) 1).1 j = (th_up m 0 0 0).1 j := fun j hj => by rw [up_cell (by omega), z3.1 j (by omega) (by omega), M10.2.1 j (by omega), y3.1 j (by omega) (by omega)]
        rw [q6, e_bd, q7, e_bd, q8, e_bd, q9, e_bd, c_rateOf P9.2.1 F9 ii.1.1 ii.1.2.1 hg htg', e_bd, c_rateOf P9.1.rp F8' R.iq I.1.2.1 hg htg, e_bd, y1, e_bd, m_fairRate rm7 y2 R.iq I.1.2.1 hg htg, e_bd, m_at, e_bd, e_wr (by omega) (by omega), z1', e_bd, m_fairRate rm11 z2 ii.1.1 ii.1.2.1 hg htg', e_bd, m_at, e_bd, e_wr (by omega) (by omega)]
        exact ⟨_, _, _, rfl, rfl, G, P9.1.mod rm14 (me 1 (by omega)) (me 3 (by omega)) (me 4 (by omega))⟩
theorem s_weightFor (x y : Int32) : Sp2 (fX3_weightFor x y) (fX4_weightFor x y) := by
  intro n h m hn ⟨G, R⟩
  have R0 := R.th0
  have I := R.2.2.1
  unfold fX3_weightFor fX4_weightFor
  rw [e_st]
  rcases R0.flow x with ⟨a1, b1⟩ | ⟨f, hf, e, ht, a1, b1⟩
  · rw [a1, b1, e_bd, e_bd, if_pos rfl, if_pos rfl]
    exact ⟨_, _, _, rfl, rfl, G, R0.inc⟩
  · rw [a1, b1, e_bd, e_bd, if_neg (show ¬ (1 : Int32) = 0 by decide), if_neg (show ¬ (1 : Int32) = 0 by decide), e]
    obtain ⟨h3, b0, q3, P3, hb, hk3⟩ := sheet R0
    obtain ⟨m4, t1, t2, t3, t4⟩ := m_think R0.2.1
    have rm4 : RM m4 G := R0.2.1.off (t3 2 (by omega))
    rw [q3, e_bd, t1, e_bd]
    have iq : ∀ w, 0 < w → w ≤ 9 → IQ (gu G (23 + 11 * f + 3 + 0) w) := fun w h0 h9 => part_iq I hf (w := 0) (v := w) (by omega) (by rw [if_pos rfl]; omega) (fun z => by omega) (fun z => by omega) ht
    have ib : ∀ w, IB (gu G (23 + 11 * f + 3 + 0) w) := fun w => FLX.ib (pt_x (by omega)) hf I.1.2.1 (fun l _ => by
      obtain ⟨-, y2, -⟩ := pt_val (G := G) (f := f) 0 w
      rw [if_neg (by omega)] at y2
      unfold ctb
      rw [pt_ov, y2]
      exact Nat.le_refl _)
    have key : ∀ d w fu h' m' Gp b, w + d = 10 → d < fu → 0 < w → (∀ k, k ≠ 23 + 11 * f + 3 → Gp k = G k) → PA (n + 1) b G Gp h' (th_up m 0 0 0) → b + d ≤ 100 * (n + 1) → RM m' Gp → (∀ k, k < 643 → m'.1 5 k = nI (G k)) → (∀ k, k = 1 ∨ k = 3 ∨ k = 4 → m'.1 k = (th_up m 0 0 0).1 k) → ∃ r h2 m2, fX3_weightFor_c21 fu (nI f) y (nI w) h' = some (r, h2) ∧ fX4_weightFor_c24 (fu + 1) (nI f) y (-1) (nI w) m' = some (r, m2) ∧ Rel (n + 1) h2 m2 := by
      intro d
      induction d with
      | zero =>
        intro w fu h' m' Gp b hw hfu w0 hG P hbd rm A me
        obtain ⟨fu, rfl⟩ : ∃ z, fu = z + 1 := ⟨fu - 1, by omega⟩
        obtain rfl : w = 10 := by omega
        obtain ⟨m9, u1, u2, v1, v3, v4, -⟩ := m_thought (G := G) (m := th_up m 0 0 0) (m2 := m') A me
        rw [fX3_weightFor_c21, if_pos (by decide), fX4_weightFor_c24, if_pos (by decide), u1, e_bd]
        exact ⟨_, _, _, rfl, rfl, G, P.1.mod u2 v1 v3 v4⟩
      | succ d ih =>
        intro w fu h' m' Gp b hw hfu w0 hG P hbd rm A me
        obtain ⟨fu, rfl⟩ : ∃ z, fu = z + 1 := ⟨fu - 1, by omega⟩
        have eg : gu Gp (23 + 11 * f + 3 + 0) w = gu G (23 + 11 * f + 3 + 0) w := by
          funext k
          unfold gu
          by_cases z : k = 23 + 11 * f + 3 + 0
          · rw [if_pos z, if_pos z]
          · rw [if_neg z, if_neg z, hG k (by omega)]
        obtain ⟨h4, q4, rp4, e28, ej, ec, -⟩ := c_setPart (v := w) (w := 0) P.2.1 hf (by omega)
        rw [eg] at rp4
        have q4' : fX0_setPart 28 (nI f) 0 (nI w) h' = some ((), h4) := q4
        have P4 := P.edit (fun c hc => ec c (by omega) (by omega)) e28 rp4 (by omega)
        obtain ⟨h5, q5, F5, P5, -⟩ := P4.rise (by omega) (iq w w0 (by omega)) (ib w)
        have M5 : MF m' (th_up m' 2 (23 + 11 * f + 3 + 0) (nI w)) (gu G (23 + 11 * f + 3 + 0) w) := by rw [← eg]; exact (MF.rf rm).up
        obtain ⟨m6, z1, z2, z3⟩ := m_layFair M5.1 (iq w w0 (by omega)) (ib w)
        have rm6 := z3.row M5.1
        have z1' : fX4_layFair (th_up m' 2 (23 + 11 * f + 3) (nI w)) = some ((), m6) := z1
        have ht' : gTh (gu G (23 + 11 * f + 3 + 0) w) f = true := by rw [pt_th]; exact ht
        have A6 : ∀ k, k < 643 → m6.1 5 k = nI (G k) := fun k hk => by rw [z3.1 5 (by omega) (by omega), M5.2.1 5 (by omega)]; exact A k hk
        have me6 : ∀ k, k = 1 ∨ k = 3 ∨ k = 4 → m6.1 k = (th_up m 0 0 0).1 k := fun k hk => by rw [z3.1 k (by omega) (by omega), M5.2.1 k (by omega)]; exact me k hk
        have n9 : ¬ (9 : Int32) < nI w := by
          rw [show (9 : Int32) = nI 9 from rfl, e_lt (by omega) (by omega)]
          omega
        rw [fX3_weightFor_c21, if_neg n9, q4', e_bd, q5, e_bd, c_rateOf P5.2.1 F5 (iq w w0 (by omega)) (ib w) hf ht', e_bd, fX4_weightFor_c24, if_neg n9, if_pos rfl, m_at, e_bd, show nI (23 + 11 * f) + 3 = nI (23 + 11 * f + 3) from e_addl _ 3, e_wr (by omega) (by omega), z1', e_bd, m_fairRate rm6 z2 (iq w w0 (by omega)) (ib w) hf ht', e_bd, nI_1]
        by_cases c : nI (gRate (gu G (23 + 11 * f + 3 + 0) w) f (gLv (gu G (23 + 11 * f + 3 + 0) w) f)) < y
        · rw [if_pos c, if_pos c]
          exact ih (w + 1) fu h5 m6 _ (b + 1) (by omega) (by omega) (by omega) (fun k hk => gu_ne (by omega)) P5 (by omega) rm6 A6 me6
        · rw [if_neg c, if_neg c]
          obtain ⟨m9, u1, u2, v1, v3, v4, -⟩ := m_thought (G := G) (m := th_up m 0 0 0) (m2 := m6) A6 me6
          rw [fX4_weightFor_c24, if_neg (show ¬ nI w = -1 by rw [e_ne1 (by omega)]; exact id), u1, e_bd]
          have es : (if (9 : Int32) < nI (w + 1) then some (nI w, m9) else some (nI w, m9)) = some (nI w, m9) := by split <;> rfl
          rw [es]
          exact ⟨_, _, _, rfl, rfl, G, P5.1.mod u2 v1 v3 v4⟩
    have k0 := key 9 1 999 h3 m4 G (b0 + 1) (by omega) (by omega) (by omega) (fun _ _ => rfl) P3.pa (by omega) rm4 t2 (fun k hk => t3 k (by omega))
    obtain ⟨r, h2, m2, c1, c2, c3⟩ := k0
    have up : ∀ (fu : Nat) (a b c : Int32) h r, fX3_weightFor_c21 fu a b c h = some r → fX3_weightFor_c21 (fu + 1) a b c h = some r := by
      intro fu
      induction fu with
      | zero => intro a b c h r e; cases e
      | succ fu ih =>
        intro a b c h r e
        rw [fX3_weightFor_c21] at e ⊢
        by_cases z : (9 : Int32) < c
        · rw [if_pos z] at e ⊢; exact e
        · rw [if_neg z] at e ⊢
          cases e1 : fX0_setPart 28 a 0 c h with
          | none => rw [e1] at e; cases e
          | some v1 =>
            obtain ⟨v1, w1⟩ := v1
            rw [e1, e_bd] at e
            rw [e_bd]
            cases e2 : fX2_rise 45 28 w1 with
            | none => rw [e2] at e; cases e
            | some v2 =>
              obtain ⟨v2, w2⟩ := v2
              rw [e2, e_bd] at e
              rw [e_bd]
              cases e3 : fX2_rateOf 45 28 a w2 with
              | none => rw [e3] at e; cases e
              | some v3 =>
                obtain ⟨v3, w3⟩ := v3
                rw [e3, e_bd] at e
                rw [e_bd]
                by_cases z3 : v3 < b
                · rw [if_pos z3] at e ⊢; exact ih _ _ _ _ _ e
                · rw [if_neg z3] at e ⊢; exact e
    exact ⟨r, h2, m2, up 999 _ _ _ _ _ c1, c2, c3⟩
