/-! ===== storm ===== -/
def dr (s : Nat) : Nat := (1103 * s + 12345) % 1000003
theorem dr_lt (s : Nat) : dr s < 1000003 := Nat.mod_lt _ (by omega)
theorem e_rem {a d : Nat} (ha : a < 2147483648) (h0 : 0 < d) (hd : d < 2147483648) : th_rem (nI a) (nI d) = nI (a % d) := pk_rem ha h0 hd
theorem e_reml {a n : Nat} (ha : a < 2147483648) (h0 : 0 < (OfNat.ofNat n : Nat)) (hn : (OfNat.ofNat n : Nat) < 2147483648) : th_rem (nI a) (no_index (OfNat.ofNat n : Int32)) = nI (a % OfNat.ofNat n) := by
  rw [fa_lit]
  exact pk_rem ha h0 hn
section
variable {N b f s : Nat} {h m m0 h2 m2 : th_H} {G Gp : GR}
theorem c_draw (hs : s < 1000003) (h : th_H) : fX3_draw (nI s) h = some (nI (dr s), h) := by
  unfold fX3_draw dr
  rw [e_lmul, e_addl, show (1000003 : Int32) = nI 1000003 from rfl]
  have e : th_rem (nI (1103 * s + 12345)) (nI 1000003) = nI ((1103 * s + 12345) % 1000003) := e_rem (by omega) (by omega) (by omega)
  have e2 : th_rem (nI (OfNat.ofNat 1103 * s + OfNat.ofNat 12345)) (nI 1000003) = nI ((1103 * s + 12345) % 1000003) := e
  rw [e2]
theorem m_draw (hm : m.2 = lN s) (hs : s < 1000003) : fX4_draw m = some (nI (dr s), th_ul m (lN (dr s))) := by
  unfold fX4_draw
  have e : th_rml (m.2 * 1103 + 12345) 1000003 = lN (dr s) := by
    rw [hm, show (1103 : Int64) = lN 1103 from rfl, show (12345 : Int64) = lN 12345 from rfl, show (1000003 : Int64) = lN 1000003 from rfl, lN_mul, lN_add, lN_rem (by omega) (by omega) (by omega)]
    unfold dr
    rw [Nat.mul_comm]
  rw [e, e_st]
  show some ((lN (dr s)).toInt32, th_ul m (lN (dr s))) = _
  rw [lN_i]
theorem m_drawU (hs : s < 1000003) : fX4_draw (th_ul m (lN s)) = some (nI (dr s), th_ul (th_ul m (lN s)) (lN (dr s))) := m_draw (m := th_ul m (lN s)) (show (th_ul m (lN s)).2 = lN s from rfl) hs
theorem MTh.ul (M : MTh G Gp m0 m) (v : Int64) : MTh G Gp m0 (th_ul m v) := M
theorem MTh.round2 (M : MTh G Gp m0 m) (A : IA Gp) : ∃ m2, fX4_round m = some (bI (gQuiet Gp (gRound Gp)), m2) ∧ MTh G (gRound Gp) m0 m2 ∧ m2.2 = m.2 := by
  obtain ⟨m2, q, X⟩ := m_round M.1 A
  exact ⟨m2, q, ⟨X.1, fun k hk => by rw [X.2.1 5 (by simp) (by omega)]; exact M.2.1 k hk, fun k hk => by rw [X.2.1 k (by simp; omega) (by omega)]; exact M.2.2 k hk⟩, X.2.2⟩
theorem m_goes_tail (R : RM m Gp) (I : IQ Gp) : ∀ (e i fu : Nat) (y : Int32), i + e = 20 → e < fu → y.toInt ≤ -1 → -(1000 : Int) + (e : Int) ≤ y.toInt → fX4_goesByChance_c19 fu y (nI i) m = some ((), m) := by
  intro e
  induction e with
  | zero =>
    intro i fu y hi hfu h1 h2
    obtain ⟨fu, rfl⟩ : ∃ z, fu = z + 1 := ⟨fu - 1, by omega⟩
    obtain rfl : i = 20 := by omega
    rw [fX4_goesByChance_c19, if_neg (by decide)]
  | succ e ih =>
    intro i fu y hi hfu h1 h2
    obtain ⟨fu, rfl⟩ : ∃ z, fu = z + 1 := ⟨fu - 1, by omega⟩
    have em : (-1 : Int32).toInt = -1 := by decide
    have ey : (y + (-1)).toInt = y.toInt - 1 := by
      rw [fb_addI (by rw [em]; omega) (by rw [em]; omega), em]
      omega
    have y0 : ¬ y = 0 := fun z => by rw [z] at h1; exact absurd h1 (by decide)
    rw [fX4_goesByChance_c19, if_pos (show nI i < (20 : Int32) from nI_lt (a := i) (b := 20) (by omega) (by omega)), m_isFlow R I (by omega), e_bd, ic e_c0, nI_1, if_neg y0]
    have r1 := ih (i + 1) fu y (by omega) (by omega) h1 (by omega)
    have r2 := ih (i + 1) fu (y + (-1)) (by omega) (by omega) (by omega) (by omega)
    rw [r1, r2]
    split <;> rfl
theorem goes_rel (P : PQ N b G Gp h m2) (M : MTh G Gp m0 m) (hN : N ≤ 600) (hb : b + 1 ≤ 100 * N) (y3 : Int32) : ∀ e i fu k, i + e = 20 → e < fu → ∃ h' m' Gp' b', fX3_someoneGoes_c33 fu y3 (nI k) (nI i) h = some (y3, h') ∧ fX4_goesByChance_c19 fu (nI k) (nI i) m = some ((), m') ∧ PQ N b' G Gp' h' m2 ∧ MTh G Gp' m0 m' ∧ m'.2 = m.2 ∧ b' ≤ b + 1 := by
  have I := P.2.2.1
  intro e
  induction e with
  | zero =>
    intro i fu k hi hfu
    obtain ⟨fu, rfl⟩ : ∃ z, fu = z + 1 := ⟨fu - 1, by omega⟩
    obtain rfl : i = 20 := by omega
    rw [fX3_someoneGoes_c33, fX4_goesByChance_c19, if_neg (by decide), if_neg (by decide)]
    exact ⟨h, m, Gp, b, rfl, rfl, P, M, rfl, by omega⟩
  | succ e ih =>
    intro i fu k hi hfu
    obtain ⟨fu, rfl⟩ : ∃ z, fu = z + 1 := ⟨fu - 1, by omega⟩
    have hi2 : i < 20 := by omega
    rw [fX3_someoneGoes_c33, fX4_goesByChance_c19, if_pos (show nI i < (20 : Int32) from nI_lt (a := i) (b := 20) hi2 (by omega)), if_pos (show nI i < (20 : Int32) from nI_lt (a := i) (b := 20) hi2 (by omega)), c_has P.2.1.1 hi2, e_bd, m_isFlow M.1 I.1.1 hi2, e_bd, ic e_c0, ic e_c0, nI_1]
    by_cases t : gTh Gp i = true
    · rw [if_neg (not_not_intro t), if_neg (not_not_intro t)]
      by_cases k0 : nI k = 0
      · obtain ⟨h5, q5, rq5, e8, e13, ec, -⟩ := c_letGo P.2.1 hi2
        have M6 : MF m (th_up m 2 (23 + 11 * i) (nI 0)) (gu Gp (23 + 11 * i) 0) := (MF.rf M.1).up
        have ii := gone_ii I hi2
        have P5 := P.edit hN (fun c hc => ec c (by omega)) e8 e13 rq5 ii hb
        have tl := m_goes_tail (m := th_up m 2 (23 + 11 * i) (nI 0)) M6.1 ii.1.1 e (i + 1) fu (nI k + (-1)) (by omega) (by omega) (by rw [k0]; decide) (by
          rw [k0]
          have : ((0 : Int32) + (-1)).toInt = -1 := by decide
          rw [this]
          omega)
        have tl' : fX4_goesByChance_c19 fu (nI k + (-1)) (nI (i + 1)) (th_up m 2 (23 + 11 * i) 0) = some ((), th_up m 2 (23 + 11 * i) (nI 0)) := tl
        rw [if_pos k0, if_pos k0, q5, e_bd, m_at, e_bd, e_wr (by omega) (by omega), tl']
        exact ⟨h5, _, _, b + 1, rfl, rfl, P5, ⟨M6.1, fun j hj => by rw [up_cell (by omega)]; exact M.2.1 j hj, fun j hj => by rw [up_cell (by omega)]; exact M.2.2 j hj⟩, rfl, by omega⟩
      · rw [if_neg k0, if_neg k0]
        have kp : 1 ≤ k := by
          cases k with
          | zero => exact absurd rfl k0
          | succ k => omega
        obtain ⟨k', rfl⟩ : ∃ z, k = z + 1 := ⟨k - 1, by omega⟩
        rw [pk_m1]
        exact ih (i + 1) fu k' (by omega) (by omega)
    · rw [if_pos t, if_pos t]
      exact ih (i + 1) fu k (by omega) (by omega)
theorem ul_ul (a c : Int64) : th_ul (th_ul m a) c = th_ul m c := rfl
theorem c_comes {u0 u1 u2 u3 u4 : Nat} (b0 : u0 < 1000003) (h1 : dr u0 = u1) (h2 : dr u1 = u2) (h3 : dr u2 = u3) (h4 : dr u3 = u4) (h : th_H) : fX3_someoneComes (nI u0) h = (th_bd (fX3_whyNotCome 28 (nI (u1 % 1000000)) (nI (u2 % 1023 + 1)) (nI (u3 % 9 + 1)) 0 (nI (u4 % 1000)) h) fun u5 h5 => if u5 = -1 then th_bd (fX1_takeIn 27 (nI (u1 % 1000000)) (nI (u2 % 1023 + 1)) (nI (u3 % 9 + 1)) 0 (nI (u4 % 1000)) h5) fun u7 h7 => some (nI u4, h7) else some (nI u4, h5)) := by
  have b1 : u1 < 1000003 := by rw [← h1]; exact dr_lt _
  have b2 : u2 < 1000003 := by rw [← h2]; exact dr_lt _
  have b3 : u3 < 1000003 := by rw [← h3]; exact dr_lt _
  have b4 : u4 < 1000003 := by rw [← h4]; exact dr_lt _
  have a1 : th_rem (nI u1) 1000000 = nI (u1 % 1000000) := e_reml (by omega) (by decide) (by decide)
  have a2 : th_rem (nI u2) 1023 = nI (u2 % 1023) := e_reml (by omega) (by decide) (by decide)
  have a3 : th_rem (nI u3) 9 = nI (u3 % 9) := e_reml (by omega) (by decide) (by decide)
  have a4 : th_rem (nI u4) 1000 = nI (u4 % 1000) := e_reml (by omega) (by decide) (by decide)
  have cm : ∀ a : Nat, (1 : Int32) + nI a = nI (a + 1) := fun a => by rw [show (1 : Int32) = nI 1 from rfl, nI_add, Nat.add_comm]
  unfold fX3_someoneComes
  rw [c_draw b0, h1, e_bd, c_draw b1, h2, e_bd, c_draw b2, h3, e_bd, c_draw b3, h4, e_bd, a1, a2, a3, a4, cm, cm]
theorem m_comes {u0 u1 u2 u3 u4 : Nat} (b0 : u0 < 1000003) (h1 : dr u0 = u1) (h2 : dr u1 = u2) (h3 : dr u2 = u3) (h4 : dr u3 = u4) : fX4_comesByChance (th_ul m (lN u0)) = (th_bd (fX4_namedBy (nI (u1 % 1000000)) (th_ul m (lN u4))) fun u5 h5 => if u5 = -1 then th_bd (fX4_whyNot (nI (u2 % 1023 + 1)) (nI (u3 % 9 + 1)) 0 (nI (u4 % 1000)) h5) fun u7 h7 => if u7 = -1 then th_bd (fX4_freeNumber h7) fun u9 h9 => th_bd (fX4_lay u9 (nI (u1 % 1000000)) (nI (u2 % 1023 + 1)) (nI (u3 % 9 + 1)) 0 (nI (u4 % 1000)) h9) fun _u10 h10 => some ((), h10) else some ((), h7) else some ((), h5)) := by
  have b1 : u1 < 1000003 := by rw [← h1]; exact dr_lt _
  have b2 : u2 < 1000003 := by rw [← h2]; exact dr_lt _
  have b3 : u3 < 1000003 := by rw [← h3]; exact dr_lt _
  have b4 : u4 < 1000003 := by rw [← h4]; exact dr_lt _
  have a1 : th_rem (nI u1) 1000000 = nI (u1 % 1000000) := e_reml (by omega) (by decide) (by decide)
  have a2 : th_rem (nI u2) 1023 = nI (u2 % 1023) := e_reml (by omega) (by decide) (by decide)
  have a3 : th_rem (nI u3) 9 = nI (u3 % 9) := e_reml (by omega) (by decide) (by decide)
  have a4 : th_rem (nI u4) 1000 = nI (u4 % 1000) := e_reml (by omega) (by decide) (by decide)
  unfold fX4_comesByChance
  rw [m_drawU b0, h1, e_bd, ul_ul, m_drawU b1, h2, e_bd, ul_ul, m_drawU b2, h3, e_bd, ul_ul, m_drawU b3, h4, e_bd, ul_ul, a1, a2, a3, a4, nI_1, nI_1]
theorem comes_rel {m4 : th_H} (P : PQ N b G Gp h m2) (M4 : MTh G Gp m0 m4) (hN : N ≤ 600) (hb : b + 1 ≤ 100 * N) (nm0 ra rb rd : Nat) (hnm0 : nm0 < 1000000) (s5 : Int32) : ∃ h' m' Gp' b', (th_bd (fX3_whyNotCome 28 (nI nm0) (nI ra) (nI rb) 0 (nI rd) h) fun u5 h5 => if u5 = -1 then th_bd (fX1_takeIn 27 (nI nm0) (nI ra) (nI rb) 0 (nI rd) h5) fun u7 h7 => some (s5, h7) else some (s5, h5)) = some (s5, h') ∧ (th_bd (fX4_namedBy (nI nm0) m4) fun u5 h5 => if u5 = -1 then th_bd (fX4_whyNot (nI ra) (nI rb) 0 (nI rd) h5) fun u7 h7 => if u7 = -1 then th_bd (fX4_freeNumber h7) fun u9 h9 => th_bd (fX4_lay u9 (nI nm0) (nI ra) (nI rb) 0 (nI rd) h9) fun _u10 h10 => some ((), h10) else some ((), h7) else some ((), h5)) = some ((), m') ∧ PQ N b' G Gp' h' m2 ∧ MTh G Gp' m0 m' ∧ m'.2 = m4.2 ∧ b' ≤ b + 1 := by
  have I := P.2.2.1
  obtain ⟨r, q1, hr, -⟩ := come_rel P.2.1 M4.1 I (nI nm0) (nI ra) (nI rb) 0 (nI rd)
  have q1' : fX3_whyNotCome 28 (nI nm0) (nI ra) (nI rb) 0 (nI rd) h = some (r, h) := q1
  have mn := m_namedBy M4.1 I (nI nm0)
  rw [q1', e_bd]
  rcases hr with ⟨z, y⟩ | ⟨z, ⟨w, y1, y2⟩, y3, w2, y4, y5⟩ | ⟨z, y1, y2, y3⟩ | ⟨z, y1, y2, y3, nm, a, bb, c, d, z1, z2, z3, z4, z5, K, hnm, hno⟩
  · obtain ⟨w0, -, qw, -⟩ := why_rel P.2.1.1 M4.1 I.1.1 I.1.2.1 (nI ra) (nI rb) 0 (nI rd)
    refine ⟨h, m4, Gp, b, by rw [if_neg (by rw [z]; decide)], ?_, P, M4, rfl, by omega⟩
    rw [mn, e_bd]
    by_cases c : (if gNamed Gp (nI nm0) < 20 then nI (gNamed Gp (nI nm0)) else (-1 : Int32)) = -1
    · rw [if_pos c, qw, e_bd]
      rcases y with y | y
      · rw [qw] at y
        have w00 : w0 = 0 := (Prod.mk.inj (Option.some.inj y)).1
        rw [if_neg (by rw [w00]; decide)]
      · exfalso
        apply y
        rw [nI_toInt (by omega)]
        omega
    · rw [if_neg c]
  · refine ⟨h, m4, Gp, b, by rw [if_neg (by rw [z]; decide)], ?_, P, M4, rfl, by omega⟩
    rw [y4, e_bd, if_neg y5]
  · have rn : r ≠ -1 := by rcases z with z | z <;> rw [z] <;> decide
    refine ⟨h, m4, Gp, b, by rw [if_neg rn], ?_, P, M4, rfl, by omega⟩
    rw [y3, e_bd, if_pos rfl, y1, e_bd, if_neg rn]
  · have hn0 := free_th y3
    obtain ⟨h7, q7, rq7, e8, ek, -⟩ := c_takeIn (nm := nm) (b := bb) (c := c) (d := d) P.2.1 y3 K.2.1
    obtain ⟨m10, l1, l2⟩ := m_lay M4.1 y3 nm a bb c d
    have ii := lay_ii I y3 hn0 K hnm hno
    have P7 := P.edit hN (fun k hk => ek k (by omega)) e8 (by rw [ek 27 (by omega)]) rq7 ii hb
    refine ⟨h7, m10, _, b + 1, ?_, ?_, P7, ⟨l2.1, fun j hj => by rw [l2.2.1 5 (by omega)]; exact M4.2.1 j hj, fun j hj => by rw [l2.2.1 j (by omega)]; exact M4.2.2 j hj⟩, l2.2.2, by omega⟩
    · rw [if_pos z, z1, z2, z3, z4, z5, q7, e_bd]
    · rw [y2, e_bd, if_pos rfl, y1, e_bd, if_pos rfl, m_freeNumber M4.1 I.1.1, e_bd, z1, z2, z3, z4, z5, l1, e_bd]
theorem goes_all {u0 u1 : Nat} (P : PQ N b G Gp h m2) (M : MTh G Gp m0 m) (b0 : u0 < 1000003) (h1 : dr u0 = u1) (hN : N ≤ 600) (hb : b + 1 ≤ 100 * N) : ∃ u2 h' m' Gp' b', u2 < 1000003 ∧ fX3_someoneGoes (nI u0) h = some (nI u2, h') ∧ fX4_goesByChance (th_ul m (lN u0)) = some ((), m') ∧ PQ N b' G Gp' h' m2 ∧ MTh G Gp' m0 m' ∧ m'.2 = lN u2 ∧ b' ≤ b + 1 := by
  have I := P.2.2.1
  have b1 : u1 < 1000003 := by rw [← h1]; exact dr_lt _
  have v7 : h.1 28 7 = nI (mk (gTh Gp) 20) := P.2.1.1.2.2.2.2
  have eM : fb_ct (gTh Gp) 20 = gMany Gp := rfl
  have hm20 : gMany Gp ≤ 20 := fb_ct_le _ 20
  unfold fX3_someoneGoes fX4_goesByChance
  rw [v7, bits_mk, e_bd, eM, m_flowMany (M.ul (lN u0)).1 I.1.1, e_bd]
  by_cases k0 : nI (gMany Gp) = 0
  · rw [if_pos k0, if_pos k0]
    exact ⟨u0, h, _, Gp, b, b0, rfl, rfl, P, M.ul _, rfl, by omega⟩
  · have hp : 0 < gMany Gp := by
      rcases Nat.eq_zero_or_pos (gMany Gp) with z | z
      · rw [z] at k0; exact absurd rfl k0
      · exact z
    rw [if_neg k0, if_neg k0, c_draw b0, h1, e_bd, e_dv hp (by omega), e_rem (by omega) hp (by omega), m_drawU b0, h1, e_bd, ul_ul, e_dv hp (by omega), e_rem (by omega) hp (by omega)]
    obtain ⟨h', m', Gp', b', g1, g2, g3, g4, g5, g6⟩ := goes_rel (m := th_ul m (lN u1)) P (M.ul _) hN hb (nI u1) 20 0 1000 (u1 % gMany Gp) (by omega) (by omega)
    exact ⟨u1, h', m', Gp', b', b1, g1, g2, g3, g4, g5, g6⟩
theorem blow_rel (P : PQ N b G Gp h m2) (M : MTh G Gp m0 m) (hm : m.2 = lN s) (hs : s < 1000003) (hN : N ≤ 600) (hb : b + 1 ≤ 100 * N) : ∃ s' h' m' Gp' b', s' < 1000003 ∧ fX3_blow (nI s) h = some (nI s', h') ∧ (∀ k : th_H → Option (Int32 × th_H), (th_bd (fX4_draw m) fun u2 h2 => if th_rem u2 4 = 0 then th_bd (fX4_comesByChance h2) fun _u4 h4 => k h4 else if th_rem u2 4 = 1 then th_bd (fX4_goesByChance h2) fun _u6 h6 => k h6 else k h2) = k m') ∧ PQ N b' G Gp' h' m2 ∧ MTh G Gp' m0 m' ∧ m'.2 = lN s' ∧ b' ≤ b + 1 := by
  obtain ⟨u0, hu0⟩ : ∃ u, dr s = u := ⟨_, rfl⟩
  have b0 : u0 < 1000003 := by rw [← hu0]; exact dr_lt _
  have e4 : th_rem (nI u0) 4 = nI (u0 % 4) := e_reml (by omega) (by decide) (by decide)
  have md := m_draw hm hs
  rw [hu0] at md
  unfold fX3_blow
  simp only [bd1]
  rw [c_draw hs, hu0, e_bd, md, e4]
  by_cases c0 : nI (u0 % 4) = 0
  · obtain ⟨u1, h1⟩ : ∃ u, dr u0 = u := ⟨_, rfl⟩
    obtain ⟨u2, h2⟩ : ∃ u, dr u1 = u := ⟨_, rfl⟩
    obtain ⟨u3, h3⟩ : ∃ u, dr u2 = u := ⟨_, rfl⟩
    obtain ⟨u4, h4⟩ : ∃ u, dr u3 = u := ⟨_, rfl⟩
    have b4 : u4 < 1000003 := by rw [← h4]; exact dr_lt _
    obtain ⟨h', m', Gp', b', g1, g2, g3, g4, g5, g6⟩ := comes_rel (m4 := th_ul m (lN u4)) P (M.ul _) hN hb (u1 % 1000000) (u2 % 1023 + 1) (u3 % 9 + 1) (u4 % 1000) (Nat.mod_lt _ (by omega)) (nI u4)
    refine ⟨u4, h', m', Gp', b', b4, ?_, fun k => ?_, g3, g4, g5, g6⟩
    · rw [if_pos c0, c_comes b0 h1 h2 h3 h4, g1]
    · rw [e_bd, e4, if_pos c0, m_comes b0 h1 h2 h3 h4, g2, e_bd]
  · by_cases c1 : nI (u0 % 4) = 1
    · obtain ⟨u1, h1⟩ : ∃ u, dr u0 = u := ⟨_, rfl⟩
      obtain ⟨u2, h', m', Gp', b', g0, g1, g2, g3, g4, g5, g6⟩ := goes_all P M b0 h1 hN hb
      refine ⟨u2, h', m', Gp', b', g0, ?_, fun k => ?_, g3, g4, g5, g6⟩
      · rw [if_neg c0, if_pos c1, g1]
      · rw [e_bd, e4, if_neg c0, if_pos c1, g2, e_bd]
    · refine ⟨u0, h, th_ul m (lN u0), Gp, b, b0, ?_, fun k => ?_, P, M.ul _, rfl, by omega⟩
      · rw [if_neg c0, if_neg c1]
      · rw [e_bd, e4, if_neg c0, if_neg c1]
end
theorem s_storm (x y z : Int32) : Sp2 (fX3_storm x y z) (fX4_storm x y z) := by
  intro n h m hn ⟨G, R⟩
  have R0 := R.th0
  unfold fX3_storm fX4_storm
  have e1 : (x < 0) = (x.toInt < 0) := e_xlt x 0 (by decide)
  have e2 : (x < 1000000) = (x.toInt < 1000000) := e_xlt x 1000000 (by decide)
  have e3 : (y < 1) = (y.toInt < 1) := e_xlt y 1 (by decide)
  have e4 : (40 < y) = (40 < y.toInt) := e_ltx y 40 (by decide)
  have e5 : (z < 0) = (z.toInt < 0) := e_xlt z 0 (by decide)
  have e6 : (2 < z) = (2 < z.toInt) := e_ltx z 2 (by decide)
  rw [e_st, ic e1, ic e2, ic e3, ic e4, ic e5, ic e6, m_inl x 0 999999 (by decide) (by decide), e_bd, ic e_c0, m_inl y 1 40 (by decide) (by decide), e_bd, ic e_c0, m_inl z 0 2 (by decide) (by decide), e_bd, ic e_c0]
  have out : ∃ r h2 m2, some ((-1 : Int32), h) = some (r, h2) ∧ some ((-1 : Int32), th_up m 0 0 0) = some (r, m2) ∧ Rel (n + 1) h2 m2 := ⟨_, _, _, rfl, rfl, G, R0.inc⟩
  by_cases cx : 0 ≤ x.toInt ∧ x.toInt ≤ 999999
  · have cx2 : ¬ ¬ ((OfNat.ofNat 0 : Int) ≤ x.toInt ∧ x.toInt ≤ (OfNat.ofNat 999999 : Int)) := not_not_intro cx
    rw [if_neg (show ¬ x.toInt < 0 by omega), if_pos (show x.toInt < 1000000 by omega), if_neg cx2]
    by_cases cy : 1 ≤ y.toInt ∧ y.toInt ≤ 40
    · have cy2 : ¬ ¬ ((OfNat.ofNat 1 : Int) ≤ y.toInt ∧ y.toInt ≤ (OfNat.ofNat 40 : Int)) := not_not_intro cy
      rw [if_neg (show ¬ y.toInt < 1 by omega), if_neg (show ¬ 40 < y.toInt by omega), if_neg cy2]
      by_cases cz : 0 ≤ z.toInt ∧ z.toInt ≤ 2
      · have cz2 : ¬ ¬ ((OfNat.ofNat 0 : Int) ≤ z.toInt ∧ z.toInt ≤ (OfNat.ofNat 2 : Int)) := not_not_intro cz
        rw [if_neg (show ¬ z.toInt < 0 by omega), if_neg (show ¬ 2 < z.toInt by omega), if_neg cz2]
        obtain ⟨s0, hs0, e⟩ := rng (x := x) (n := 1000000) (by omega) (by omega)
        subst e
        obtain ⟨k, hk, e⟩ := rng (x := y) (n := 41) (by omega) (by omega)
        subst e
        obtain ⟨h7, b, q7, P7, hb⟩ := paperQ R0 hn
        obtain ⟨m8, t1, M8⟩ := MTh.begin R0.2.1
        rw [q7, e_bd, t1, e_bd, e_st, nI_l (by omega)]
        have key : ∀ d i fu h' m' Gp b' s (y5 y6 : Int32), i + d = k → d < fu → PQ (n + 1) b' G Gp h' (th_up m 0 0 0) → MTh G Gp (th_up m 0 0 0) m' → m'.2 = lN s → s < 1000003 → b' + d ≤ 100 * (n + 1) → ∃ r h2 m2, fX3_storm_c56 fu (nI k) z (nI s) y5 y6 (nI i) h' = some (r, h2) ∧ fX4_storm_c62 fu (nI k) z y5 y6 (nI i) m' = some (r, m2) ∧ Rel (n + 1) h2 m2 := by
          intro d
          induction d with
          | zero =>
            intro i fu h' m' Gp b' s y5 y6 hi hfu P M hm hs hb'
            obtain ⟨fu, rfl⟩ : ∃ z, fu = z + 1 := ⟨fu - 1, by omega⟩
            obtain ⟨m9, u1, u2, v1, v3, v4⟩ := M.fin
            have v7 : h'.1 28 7 = nI (mk (gTh Gp) 20) := P.2.1.1.2.2.2.2
            have eM : fb_ct (gTh Gp) 20 = gMany Gp := rfl
            rw [fX3_storm_c56, fX4_storm_c62, if_neg (nI_nlt (show k ≤ i by omega) (by omega)), if_neg (nI_nlt (show k ≤ i by omega) (by omega)), v7, bits_mk, e_bd, eM, m_flowMany M.1 P.2.2.1.1.1, e_bd, u1, e_bd]
            have fin : ∀ r : Int32, ∃ r' h2 m2, some (r, h') = some (r', h2) ∧ some (r, m9) = some (r', m2) ∧ Rel (n + 1) h2 m2 := fun r => ⟨_, _, _, rfl, rfl, G, P.1.mod u2 v1 v3 v4⟩
            by_cases k0 : z = 0
            · rw [if_pos k0, if_pos k0]; exact fin _
            · rw [if_neg k0, if_neg k0]
              by_cases k1 : z = 1
              · rw [if_pos k1, if_pos k1]; exact fin _
              · rw [if_neg k1, if_neg k1]; exact fin _
          | succ d ih =>
            intro i fu h' m' Gp b' s y5 y6 hi hfu P M hm hs hb'
            obtain ⟨fu, rfl⟩ : ∃ z, fu = z + 1 := ⟨fu - 1, by omega⟩
            obtain ⟨s', h1, m1, Gp1, b1, hs', w1, w2, P1, M1, hm1, hb1⟩ := blow_rel P M hm hs (by omega) (by omega)
            obtain ⟨h2', q2, P2⟩ := P1.round (by omega)
            obtain ⟨m2, q3, M2, hm2⟩ := M1.round2 P1.2.2.1.1
            rw [fX3_storm_c56, fX4_storm_c62, if_pos (nI_lt (show i < k by omega) (by omega)), if_pos (nI_lt (show i < k by omega) (by omega)), w1, e_bd, w2 (fun h6 => fX4_storm_c98 (fX4_storm_c62 fu) (nI k) z y5 y6 (nI i) h6), q2, e_bd]
            unfold fX4_storm_c98
            rw [q3, e_bd]
            have nx : ∀ z1 : Int32, ∃ r h2 m3, fX3_storm_c87 (fX3_storm_c56 fu) (nI k) z (nI s') y6 (nI i) y5 z1 h2' = some (r, h2) ∧ fX4_storm_c112 (fX4_storm_c62 fu) (nI k) z y6 (nI i) y5 z1 m2 = some (r, m3) ∧ Rel (n + 1) h2 m3 := by
              intro z1
              unfold fX3_storm_c87 fX4_storm_c112
              rw [c_overbooked P2.2.1 P2.2.2.1, e_bd, m_overbooked M2.1 P2.2.2.1, e_bd, nI_1]
              by_cases w : nI (mk (gOver (gRound Gp1)) 10) = 0
              · rw [if_pos w, if_pos w]
                exact ih (i + 1) fu h2' m2 _ b1 s' _ _ (by omega) (by omega) P2 M2 (hm2.trans hm1) hs' (by omega)
              · rw [if_neg w, if_neg w]
                exact ih (i + 1) fu h2' m2 _ b1 s' _ _ (by omega) (by omega) P2 M2 (hm2.trans hm1) hs' (by omega)
            by_cases w : bI (gQuiet Gp1 (gRound Gp1)) = 0
            · rw [if_pos w, if_pos w]; exact nx 0
            · rw [if_neg w, if_neg w]; exact nx 1
        exact key k 0 1000 h7 (th_ul m8 (lN s0)) G (b + 1) s0 0 0 (by omega) (by omega) P7 (M8.ul _) rfl (by omega) (by omega)
      · have cz2 : ¬ ((OfNat.ofNat 0 : Int) ≤ z.toInt ∧ z.toInt ≤ (OfNat.ofNat 2 : Int)) := cz
        rw [if_pos cz2]
        by_cases w : z.toInt < 0
        · rw [if_pos w]; exact out
        · rw [if_neg w, if_pos (show 2 < z.toInt by omega)]; exact out
    · have cy2 : ¬ ((OfNat.ofNat 1 : Int) ≤ y.toInt ∧ y.toInt ≤ (OfNat.ofNat 40 : Int)) := cy
      rw [if_pos cy2]
      by_cases w : y.toInt < 1
      · rw [if_pos w]; exact out
      · rw [if_neg w, if_pos (show 40 < y.toInt by omega)]; exact out
  · have cx2 : ¬ ((OfNat.ofNat 0 : Int) ≤ x.toInt ∧ x.toInt ≤ (OfNat.ofNat 999999 : Int)) := cx
    rw [if_pos cx2]
    by_cases w : x.toInt < 0
    · rw [if_pos w]; exact out
    · rw [if_neg w, if_neg (show ¬ x.toInt < 1000000 by omega)]; exact out
