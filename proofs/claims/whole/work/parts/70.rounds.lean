/-! ===== rounds on paper: peak, swings, settling ===== -/
def PQ (N b : Nat) (G Gp : GR) (h m : th_H) : Prop := RelG N G h m ∧ RQ 27 h Gp ∧ II Gp ∧ OC 27 h Gp ∧ h.1 28 8 = nI b ∧ SE (h.1 27 13) b ∧ SE (h.1 45 9) b ∧ b ≤ 100 * N
section
variable {n N b f l : Nat} {h m h2 m2 : th_H} {G Gp Gp' : GR}
theorem PQ.mod (P : PQ N b G Gp h m) (rm : RM m2 G) (e1 : m2.1 1 = m.1 1) (e3 : m2.1 3 = m.1 3) (e4 : m2.1 4 = m.1 4) : PQ N b G Gp h m2 := ⟨P.1.mod rm e1 e3 e4, P.2⟩
theorem paperQ (R : RelG n G h m) (hn : n < 512) : ∃ h2 b, fX1_copy 27 1 h = some ((), h2) ∧ PQ (n + 1) (b + 1) G G h2 m ∧ b ≤ 100 * n := by
  obtain ⟨-, rm, ii, -, -, ⟨a, b, f1, f2, f3, f4, f5, f6, f7, f8⟩, -, -, -⟩ := id R
  obtain ⟨h2, q, rq, e8, e13, ec, -⟩ := c_copyQ (q := 27) R.1 (by omega)
  have e28 : h2.1 28 8 = nI (b + 1) := by
    have : h2.1 28 8 = h.1 28 8 + 1 := e8
    rw [this, f2, nI_1]
  have s45 : SE (h2.1 45 9) (b + 1) := by rw [ec 45 (by omega)]; exact f8.up (by omega)
  have s27 : SE (h2.1 27 13) b := by rw [e13]; exact f7
  refine ⟨h2, b, q, ⟨R.inc.pap (fun c hc => ec c (by omega)) e28 (by omega) (s27.up (by omega)) s45 rm rfl rfl rfl, rq, ii, ⟨fun z => ?_, b + 1, by omega, e28, s27.up (by omega)⟩, e28, s27.up (by omega), s45, by omega⟩, f4⟩
  exfalso
  have z2 : h2.1 27 13 = h2.1 28 8 := z
  rw [e28] at z2
  exact s27.ne (by omega) (by omega) z2
theorem PQ.round (P : PQ N b G Gp h m) (hN : N ≤ 600) : ∃ h2, fX1_goRound 27 h = some (bI (gQuiet Gp (gRound Gp)), h2) ∧ PQ N b G (gRound Gp) h2 m := by
  obtain ⟨R, rq, ii, oc, e28, s27, s45, hb⟩ := P
  obtain ⟨h2, q2, rq2, oc2, Z⟩ := c_goRound rq ii.1 oc ii.ih
  have e28' : h2.1 28 8 = nI b := by rw [Z.1 28 (by omega)]; exact e28
  have s27' : SE (h2.1 27 13) b := by
    obtain ⟨b', hb', x, y⟩ := oc2.2
    have x2 : h2.1 28 8 = nI b' := x
    rw [e28', e_eq (by omega) hb'] at x2
    rw [x2]
    exact y
  have s45' : SE (h2.1 45 9) b := by rw [Z.1 45 (by omega)]; exact s45
  exact ⟨h2, q2, R.pap (fun c hc => Z.1 c (by omega)) e28' hb s27' s45' R.2.1 rfl rfl rfl, rq2, gRound_ii ii, oc2, e28', s27', s45', hb⟩
theorem PQ.edit (P : PQ N b G Gp h m) (hN : N ≤ 600) (ec : ∀ c, (c < 27 ∨ 44 < c) → h2.1 c = h.1 c) (e8 : h2.1 28 8 = h.1 28 8 + 1) (e13 : h2.1 27 13 = h.1 27 13) (rq : RQ 27 h2 Gp') (ii : II Gp') (hb : b + 1 ≤ 100 * N) : PQ N (b + 1) G Gp' h2 m := by
  obtain ⟨R, -, -, -, e28, s27, s45, -⟩ := P
  have e28' : h2.1 28 8 = nI (b + 1) := by rw [e8, e28, nI_1]
  have s27' : SE (h2.1 27 13) b := by rw [e13]; exact s27
  have s45' : SE (h2.1 45 9) (b + 1) := by rw [ec 45 (by omega)]; exact s45.up (by omega)
  refine ⟨R.pap (fun c hc => ec c (by omega)) e28' (by omega) (s27'.up (by omega)) s45' R.2.1 rfl rfl rfl, rq, ii, ⟨fun z => ?_, b + 1, by omega, e28', s27'.up (by omega)⟩, e28', s27'.up (by omega), s45', hb⟩
  exfalso
  have z2 : h2.1 27 13 = h2.1 28 8 := z
  rw [e28'] at z2
  exact s27'.ne (by omega) (by omega) z2
/-- the reference's side on paper -/
def MTh (G Gp : GR) (m0 m : th_H) : Prop := RM m Gp ∧ (∀ k, k < 643 → m.1 5 k = nI (G k)) ∧ ∀ k, k = 1 ∨ k = 3 ∨ k = 4 → m.1 k = m0.1 k
theorem MTh.begin {m0 : th_H} (R : RM m0 G) : ∃ m, fX4_think m0 = some ((), m) ∧ MTh G G m0 m := by
  obtain ⟨m, t1, t2, t3, -⟩ := m_think R
  exact ⟨m, t1, R.off (t3 2 (by omega)), t2, fun k hk => t3 k (by omega)⟩
theorem MTh.round {m0 : th_H} (M : MTh G Gp m0 m) (A : IA Gp) : ∃ m2, fX4_round m = some (bI (gQuiet Gp (gRound Gp)), m2) ∧ MTh G (gRound Gp) m0 m2 := by
  obtain ⟨m2, q, X⟩ := m_round M.1 A
  exact ⟨m2, q, X.1, fun k hk => by rw [X.2.1 5 (by simp) (by omega)]; exact M.2.1 k hk, fun k hk => by rw [X.2.1 k (by simp; omega) (by omega)]; exact M.2.2 k hk⟩
theorem MTh.fin {m0 : th_H} (M : MTh G Gp m0 m) : ∃ m2, fX4_endThought m = some ((), m2) ∧ RM m2 G ∧ m2.1 1 = m0.1 1 ∧ m2.1 3 = m0.1 3 ∧ m2.1 4 = m0.1 4 := by
  obtain ⟨m2, u1, u2, v1, v3, v4, -⟩ := m_thought M.2.1 M.2.2
  exact ⟨m2, u1, u2, v1, v3, v4⟩
theorem c_isPaperRounds (x : Int32) (h : th_H) : fX3_isPaperRounds x h = some (if 1 ≤ x.toInt ∧ x.toInt ≤ 60 then 1 else 0, h) := by
  unfold fX3_isPaperRounds
  have e1 : (x < 1) = (x.toInt < 1) := e_xlt x 1 (by decide)
  have e2 : (60 < x) = (60 < x.toInt) := e_ltx x 60 (by decide)
  rw [ic e1, ic e2]
  by_cases c1 : x.toInt < 1
  · rw [if_pos c1, if_neg (by omega)]
  · rw [if_neg c1]
    by_cases c2 : 60 < x.toInt
    · rw [if_pos c2, if_neg (by omega)]
    · rw [if_neg c2, if_pos (by omega)]
end
theorem s_peak (x y : Int32) : Sp2 (fX3_peak x y) (fX4_peak x y) := by
  intro n h m hn ⟨G, R⟩
  have R0 := R.th0
  unfold fX3_peak fX4_peak
  rw [c_isLink, e_bd, e_st, m_isLink, e_bd, ic e_c0, ic e_c0]
  by_cases c : 0 ≤ x.toInt ∧ x.toInt ≤ 9
  · rw [if_neg (not_not_intro c), if_neg (not_not_intro c), c_isPaperRounds, e_bd, m_inl y 1 60 (by decide) (by decide), e_bd, ic e_c0, ic e_c0]
    obtain ⟨l, hl, e⟩ := e_li x c
    subst e
    by_cases d : 1 ≤ y.toInt ∧ y.toInt ≤ 60
    · have d2 : ¬ ¬ ((OfNat.ofNat 1 : Int) ≤ y.toInt ∧ y.toInt ≤ (OfNat.ofNat 60 : Int)) := not_not_intro d
      obtain ⟨k, hk, e⟩ := rng (x := y) (n := 61) (by omega) (by omega)
      subst e
      obtain ⟨h5, b, q5, P5, hb⟩ := paperQ R0 hn
      obtain ⟨m6, t1, M6⟩ := MTh.begin R0.2.1
      rw [if_neg (not_not_intro d), if_neg d2, q5, e_bd, t1, e_bd]
      have key : ∀ d i fu h' m' Gp (z : Int32), i + d = k → d < fu → PQ (n + 1) (b + 1) G Gp h' (th_up m 0 0 0) → MTh G Gp (th_up m 0 0 0) m' → ∃ r h2 m2, fX3_peak_c32 fu (nI l) (nI k) z (nI i) h' = some (r, h2) ∧ fX4_peak_c35 fu (nI l) (nI k) z (nI i) m' = some (r, m2) ∧ Rel (n + 1) h2 m2 := by
        intro d
        induction d with
        | zero =>
          intro i fu h' m' Gp z hi hfu P M
          obtain ⟨fu, rfl⟩ : ∃ z, fu = z + 1 := ⟨fu - 1, by omega⟩
          obtain ⟨m9, u1, u2, v1, v3, v4⟩ := M.fin
          rw [fX3_peak_c32, fX4_peak_c35, if_neg (nI_nlt (show k ≤ i by omega) (by omega)), if_neg (nI_nlt (show k ≤ i by omega) (by omega)), u1, e_bd]
          exact ⟨_, _, _, rfl, rfl, G, P.1.mod u2 v1 v3 v4⟩
        | succ d ih =>
          intro i fu h' m' Gp z hi hfu P M
          obtain ⟨fu, rfl⟩ : ∃ z, fu = z + 1 := ⟨fu - 1, by omega⟩
          obtain ⟨h2, q2, P2⟩ := P.round (by omega)
          obtain ⟨m2, q3, M2⟩ := M.round P.2.2.1.1
          rw [fX3_peak_c32, fX4_peak_c35, if_pos (nI_lt (show i < k by omega) (by omega)), if_pos (nI_lt (show i < k by omega) (by omega)), q2, e_bd, c_bookedAt P2.2.1 P2.2.2.1 hl, e_bd, q3, e_bd, m_bookedOf M2.1 P2.2.2.1 hl, e_bd, m_bookedOf M2.1 P2.2.2.1 hl, e_bd, nI_1]
          unfold th_mx
          by_cases w : z < nI (gBook (gRound Gp) l)
          · rw [if_pos w, if_pos w]
            exact ih (i + 1) fu h2 m2 _ _ (by omega) (by omega) P2 M2
          · rw [if_neg w, if_neg w]
            exact ih (i + 1) fu h2 m2 _ _ (by omega) (by omega) P2 M2
      exact key k 0 1000 h5 m6 G 0 (by omega) (by omega) P5 M6
    · have d2 : ¬ ((OfNat.ofNat 1 : Int) ≤ y.toInt ∧ y.toInt ≤ (OfNat.ofNat 60 : Int)) := d
      rw [if_pos d, if_pos d2]
      exact ⟨_, _, _, rfl, rfl, G, R0.inc⟩
  · rw [if_pos c, if_pos c]
    exact ⟨_, _, _, rfl, rfl, G, R0.inc⟩
theorem s_swings (x y z : Int32) : Sp2 (fX3_swings x y z) (fX4_swings x y z) := by
  intro n h m hn ⟨G, R⟩
  have R0 := R.th0
  unfold fX3_swings fX4_swings
  have e1 : (z < 0) = (z.toInt < 0) := e_xlt z 0 (by decide)
  have e2 : (2 < z) = (2 < z.toInt) := e_ltx z 2 (by decide)
  rw [e_st]
  have out : ∃ r h2 m2, some ((-1 : Int32), h) = some (r, h2) ∧ some ((-1 : Int32), th_up m 0 0 0) = some (r, m2) ∧ Rel (n + 1) h2 m2 := ⟨_, _, _, rfl, rfl, G, R0.inc⟩
  rcases R0.flow x with ⟨a1, b1⟩ | ⟨f, hf, e, ht, a1, b1⟩
  · rw [a1, b1, e_bd, e_bd, if_pos rfl, if_pos rfl]; exact out
  · rw [a1, b1, e_bd, e_bd, if_neg (show ¬ (1 : Int32) = 0 by decide), if_neg (show ¬ (1 : Int32) = 0 by decide), e, c_isPaperRounds, e_bd, m_inl y 1 60 (by decide) (by decide), e_bd, ic e_c0, ic e_c0, ic e1, ic e2, m_inl z 0 2 (by decide) (by decide), e_bd, ic e_c0]
    by_cases d : 1 ≤ y.toInt ∧ y.toInt ≤ 60
    · have d2 : ¬ ¬ ((OfNat.ofNat 1 : Int) ≤ y.toInt ∧ y.toInt ≤ (OfNat.ofNat 60 : Int)) := not_not_intro d
      rw [if_neg (not_not_intro d), if_neg d2]
      by_cases g : 0 ≤ z.toInt ∧ z.toInt ≤ 2
      · have g2 : ¬ ¬ ((OfNat.ofNat 0 : Int) ≤ z.toInt ∧ z.toInt ≤ (OfNat.ofNat 2 : Int)) := not_not_intro g
        obtain ⟨k, hk, e⟩ := rng (x := y) (n := 61) (by omega) (by omega)
        subst e
        rw [nI_toInt (by omega)] at d
        obtain ⟨h5, b, q5, P5, hb⟩ := paperQ R0 hn
        obtain ⟨m6, t1, M6⟩ := MTh.begin R0.2.1
        rw [if_neg (show ¬ z.toInt < 0 by omega), if_neg (show ¬ 2 < z.toInt by omega), if_neg g2, q5, e_bd, t1, e_bd]
        have key : ∀ d i fu h' m' Gp (y4 y5 yc : Int32) (ym : Nat), i + d = k → d < fu → PQ (n + 1) (b + 1) G Gp h' (th_up m 0 0 0) → MTh G Gp (th_up m 0 0 0) m' → gTh Gp f = true → ym ≤ 1000000 → (i = 0 ∨ yc = nI ym) → (∀ v, v ≤ 1000000 → th_mn yc (nI v) = nI (min ym v)) → ∃ r h2 m2, fX3_swings_c54 fu (nI f) (nI k) z y4 y5 yc (nI i) h' = some (r, h2) ∧ fX4_swings_c56 fu (nI f) (nI k) z y4 y5 (nI ym) (nI i) m' = some (r, m2) ∧ Rel (n + 1) h2 m2 := by
          intro d
          induction d with
          | zero =>
            intro i fu h' m' Gp y4 y5 yc ym hi hfu P M hth h1 h2 h3
            obtain ⟨fu, rfl⟩ : ∃ z, fu = z + 1 := ⟨fu - 1, by omega⟩
            obtain ⟨m9, u1, u2, v1, v3, v4⟩ := M.fin
            have yce : yc = nI ym := h2.elim (fun z => by omega) id
            rw [fX3_swings_c54, fX4_swings_c56, if_neg (nI_nlt (show k ≤ i by omega) (by omega)), if_neg (nI_nlt (show k ≤ i by omega) (by omega)), u1, e_bd, yce]
            have fin : ∀ r : Int32, ∃ r' h2 m2, some (r, h') = some (r', h2) ∧ some (r, m9) = some (r', m2) ∧ Rel (n + 1) h2 m2 := fun r => ⟨_, _, _, rfl, rfl, G, P.1.mod u2 v1 v3 v4⟩
            by_cases k0 : z = 0
            · rw [if_pos k0, if_pos k0]; exact fin _
            · rw [if_neg k0, if_neg k0]
              by_cases k1 : z = 1
              · rw [if_pos k1, if_pos k1]; exact fin _
              · rw [if_neg k1, if_neg k1]; exact fin _
          | succ d ih =>
            intro i fu h' m' Gp y4 y5 yc ym hi hfu P M hth h1 h2 h3
            obtain ⟨fu, rfl⟩ : ∃ z, fu = z + 1 := ⟨fu - 1, by omega⟩
            obtain ⟨h2', q2, P2⟩ := P.round (by omega)
            obtain ⟨m2, q3, M2⟩ := M.round P.2.2.1.1
            have hth2 : gTh (gRound Gp) f = true := by rw [(gRound_ok P.2.2.1.1).2.th hf]; exact hth
            have c1 : h'.1 38 f = nI (gTold Gp f) := (P.2.1.2.2.2.1 f hf hth).1
            have c2 : h2'.1 38 f = nI (gTold (gRound Gp) f) := (P2.2.1.2.2.2.1 f hf hth2).1
            have b2 := P2.2.2.1.told hf hth2
            have g7 : Gp (23 + 11 * f + 7) = gTold Gp f := rfl
            have g7' : gRound Gp (23 + 11 * f + 7) = gTold (gRound Gp) f := rfl
            have em : fX4_lesser (nI ym) (nI (gTold (gRound Gp) f)) m2 = some (nI (min ym (gTold (gRound Gp) f)), m2) := m_lesser (by omega) (by omega) m2
            have emx : ∀ (a : Int32) (k : Int32 → th_H → Option (Int32 × th_H)), (if y5 < nI (gTold (gRound Gp) f) then k (nI (gTold (gRound Gp) f)) m2 else k y5 m2) = k (th_mx y5 (nI (gTold (gRound Gp) f))) m2 := fun a k => by
              unfold th_mx
              by_cases w : y5 < nI (gTold (gRound Gp) f)
              · rw [if_pos w, if_pos w]
              · rw [if_neg w, if_neg w]
            have e109 : ∀ (z1 : Int32), fX4_swings_c109 (fX4_swings_c56 fu) (nI f) (nI k) z y5 (nI ym) (nI i) (nI (gTold (gRound Gp) f)) y4 z1 m2 = fX4_swings_c56 fu (nI f) (nI k) z (y4 + z1) (th_mx y5 (nI (gTold (gRound Gp) f))) (nI (min ym (gTold (gRound Gp) f))) (nI (i + 1)) m2 := fun z1 => by
              unfold fX4_swings_c109
              rw [em, e_bd, e_bd, nI_1]
              exact emx y5 (fun a mm => fX4_swings_c56 fu (nI f) (nI k) z (y4 + z1) a (nI (min ym (gTold (gRound Gp) f))) (nI (i + 1)) mm)
            rw [fX3_swings_c54, fX4_swings_c56, if_pos (nI_lt (show i < k by omega) (by omega)), if_pos (nI_lt (show i < k by omega) (by omega)), e_rd hf (by omega), c1, q2, e_bd, e_rd hf (by omega), c2, h3 _ b2, nI_1, m_at, e_bd, show nI (23 + 11 * f) + 7 = nI (23 + 11 * f + 7) from e_addl _ 7, m_row M.1 (by omega), g7, q3, e_bd, m_at, e_bd, show nI (23 + 11 * f) + 7 = nI (23 + 11 * f + 7) from e_addl _ 7, m_row M2.1 (by omega), g7', e109, e109]
            have nx : ∀ z1 : Int32, ∃ r h2 m3, fX3_swings_c54 fu (nI f) (nI k) z (y4 + z1) (th_mx y5 (nI (gTold (gRound Gp) f))) (nI (min ym (gTold (gRound Gp) f))) (nI (i + 1)) h2' = some (r, h2) ∧ fX4_swings_c56 fu (nI f) (nI k) z (y4 + z1) (th_mx y5 (nI (gTold (gRound Gp) f))) (nI (min ym (gTold (gRound Gp) f))) (nI (i + 1)) m2 = some (r, m3) ∧ Rel (n + 1) h2 m3 := fun z1 => ih (i + 1) fu h2' m2 _ _ _ _ (min ym (gTold (gRound Gp) f)) (by omega) (by omega) P2 M2 hth2 (by omega) (Or.inr rfl) (fun v hv => e_mn (by omega) (by omega))
            by_cases w : nI (gTold (gRound Gp) f) = nI (gTold Gp f)
            · rw [if_pos w, if_pos w]
              exact nx 0
            · rw [if_neg w, if_neg w]
              exact nx 1
        have em0 : ∀ v, v ≤ 1000000 → th_mn 1000000 (nI v) = nI (min 1000000 v) := fun v hv => by
          rw [show (1000000 : Int32) = nI 1000000 from rfl, e_mn (by omega) (by omega)]
        exact key k 0 1000 h5 m6 G 0 0 1000000 1000000 (by omega) (by omega) P5 M6 ht (by omega) (Or.inl rfl) em0
      · have g2 : ¬ ((OfNat.ofNat 0 : Int) ≤ z.toInt ∧ z.toInt ≤ (OfNat.ofNat 2 : Int)) := g
        rw [if_pos g2]
        by_cases w : z.toInt < 0
        · rw [if_pos w]; exact out
        · rw [if_neg w, if_pos (show 2 < z.toInt by omega)]; exact out
    · have d2 : ¬ ((OfNat.ofNat 1 : Int) ≤ y.toInt ∧ y.toInt ≤ (OfNat.ofNat 60 : Int)) := d
      rw [if_pos d, if_pos d2]; exact out
section
variable {h m : th_H} {G Gp : GR}
theorem SQ.lv (S : SQ G Gp) (f : Nat) : gLv Gp f = gLv G f := by unfold gLv; rw [S.sSteps, S.sV]
theorem far0 (T : Nat → Nat) : gFar G T = 0 ↔ al (fun f => !gTh G f || decide (T f = gLv G f)) 20 = true := by
  rw [al_iff]
  have ad0 : ∀ a b, ad a b = 0 ↔ a = b := fun a b => by unfold ad; split <;> omega
  constructor
  · intro z f hf
    have := fb_sm_zero z f hf
    cases ht : gTh G f with
    | false => rfl
    | true =>
      have h2 : (if gTh G f = true then ad (T f) (gLv G f) else 0) = 0 := this
      rw [if_pos ht] at h2
      rw [decide_eq_true ((ad0 _ _).mp h2)]
      rfl
  · intro z
    have : gFar G T = fb_sm (fun _ => 0) 20 := fb_sm_cong (fun f hf => by
      by_cases ht : gTh G f = true
      · have := z f hf
        rw [ht, Bool.not_true, Bool.false_or, decide_eq_true_eq] at this
        rw [if_pos ht, (ad0 _ _).mpr this]
      · rw [if_neg ht])
    rw [this, fb_sm_const]
theorem m_settle_c78 (R : RM m Gp) (F : FM Gp (fSteps Gp) m) (I : II Gp) (y1 y2 y3 y4 : Int32) : fX4_settling_c78 1000 y1 y2 y3 y4 1 0 m = (th_bd (fX4_endThought m) fun _u8 h8 => if y1 = 0 then (if y4 = 0 then some (61, h8) else some (y2, h8)) else if y1 = 1 then some (y3, h8) else some (bI (al (fun f => !gTh Gp f || decide (gTold Gp f = gLv Gp f)) 20), h8)) := by
  refine for_up 20 (fun fu i => fX4_settling_c78 fu y1 y2 y3 y4 (bI (al (fun f => !gTh Gp f || decide (gTold Gp f = gLv Gp f)) i)) (nI i) m) _ ?_ ?_ (by omega)
  · intro fu i hi
    have hl := gLv_le I.1.1 I.1.2.1 i
    have ea : al (fun f => !gTh Gp f || decide (gTold Gp f = gLv Gp f)) (i + 1) = (al (fun f => !gTh Gp f || decide (gTold Gp f = gLv Gp f)) i && (!gTh Gp i || decide (gTold Gp i = gLv Gp i))) := rfl
    rw [fX4_settling_c78, if_pos (show nI i < (20 : Int32) from nI_lt (a := i) (b := 20) hi (by omega)), m_isFlow R I.1.1 hi, e_bd, ic e_c0, m_at, e_bd, show nI (23 + 11 * i) + 7 = nI (23 + 11 * i + 7) from e_addl _ 7, m_row R (show 23 + 11 * i + 7 < 643 by omega), nI_1, ea]
    by_cases t : gTh Gp i = true
    · have g7 : Gp (23 + 11 * i + 7) = gTold Gp i := rfl
      have b7 := I.told hi t
      rw [if_neg (not_not_intro t), e_rd hi (by omega), lv_th F I.1.1 hi t, g7, ic (e_eq (show gTold Gp i < 2147483648 by omega) (show gLv Gp i < 2147483648 by omega)), t, Bool.not_true, Bool.false_or]
      by_cases w : gTold Gp i = gLv Gp i
      · rw [if_pos w, decide_eq_true w, Bool.and_true]
      · rw [if_neg w, decide_eq_false w, Bool.and_false]
        rfl
    · rw [if_pos t, show gTh Gp i = false by simpa using t, Bool.not_false, Bool.true_or, Bool.and_true]
  · intro fu
    rw [fX4_settling_c78, if_neg (by decide)]
end
theorem s_settling (x : Int32) : Sp2 (fX3_settling x) (fX4_settling x) := by
  intro n h m hn ⟨G, R⟩
  have R0 := R.th0
  unfold fX3_settling fX4_settling
  have e1 : (x < 0) = (x.toInt < 0) := e_xlt x 0 (by decide)
  have e2 : (2 < x) = (2 < x.toInt) := e_ltx x 2 (by decide)
  rw [e_st, ic e1, ic e2, m_inl x 0 2 (by decide) (by decide), e_bd, ic e_c0]
  have out : ∃ r h2 m2, some ((-1 : Int32), h) = some (r, h2) ∧ some ((-1 : Int32), th_up m 0 0 0) = some (r, m2) ∧ Rel (n + 1) h2 m2 := ⟨_, _, _, rfl, rfl, G, R0.inc⟩
  by_cases g : 0 ≤ x.toInt ∧ x.toInt ≤ 2
  · have g2 : ¬ ¬ ((OfNat.ofNat 0 : Int) ≤ x.toInt ∧ x.toInt ≤ (OfNat.ofNat 2 : Int)) := not_not_intro g
    obtain ⟨h5, b, q5, P5, hb⟩ := paperQ R0 hn
    obtain ⟨m6, t1, M6⟩ := MTh.begin R0.2.1
    rw [if_neg (show ¬ x.toInt < 0 by omega), if_neg (show ¬ 2 < x.toInt by omega), if_neg g2, q5, e_bd, t1, e_bd]
    have stop : ∀ h' m' Gp (y2 y3 : Int32) (q : Bool), PQ (n + 1) (b + 1) G Gp h' (th_up m 0 0 0) → MTh G Gp (th_up m 0 0 0) m' → SQ G Gp → ∃ r h2 m2, fX3_settling_c68 x y2 y3 (bI q) h' = some (r, h2) ∧ (th_bd (fX4_layFair m') fun _u6 h6 => fX4_settling_c78 1000 x y2 y3 (bI q) 1 0 h6) = some (r, m2) ∧ Rel (n + 1) h2 m2 := by
      intro h' m' Gp y2 y3 q P M S
      have I := P.2.2.1
      obtain ⟨m7, y1', y2', y3'⟩ := m_layFair M.1 I.1.1 I.1.2.1
      have rm7 := y3'.row M.1
      have M7 : MTh G Gp (th_up m 0 0 0) m7 := ⟨rm7, fun k hk => by rw [y3'.1 5 (by omega) (by omega)]; exact M.2.1 k hk, fun k hk => by rw [y3'.1 k (by omega) (by omega)]; exact M.2.2 k hk⟩
      obtain ⟨m9, u1, u2, v1, v3, v4⟩ := M7.fin
      obtain ⟨h7, q7, F7, R7⟩ := P.1.rise
      obtain ⟨h7', q7', -, -, Z⟩ := c_rise P.1.rp R.iq R.2.2.1.1.2.1 (show 2 + 8 ≤ 19 by omega) P.1.2.2.2.2.1
      have eh : h7 = h7' := (Prod.mk.inj (Option.some.inj (q7.symm.trans q7'))).2
      have hT : ∀ f, f < 20 → gTh G f = true → gTold Gp f ≤ 1000000 ∧ h7.1 (27 + 11) f = nI (gTold Gp f) := fun f hf ht => by
        have htp : gTh Gp f = true := by rw [S.th hf]; exact ht
        refine ⟨I.told hf htp, ?_⟩
        rw [eh, Z.1 (27 + 11) (by omega)]
        exact (P.2.1.2.2.2.1 f hf htp).1
      rw [y1', e_bd, m_settle_c78 rm7 y2' I, u1, e_bd]
      unfold fX3_settling_c68 fX3_farFromFair
      rw [q7, e_bd, c_far (q := 27) R7.rp F7 R.iq R.2.2.1.1.2.1 hT, e_bd]
      have al2 : al (fun f => !gTh Gp f || decide (gTold Gp f = gLv Gp f)) 20 = al (fun f => !gTh G f || decide (gTold Gp f = gLv G f)) 20 := al_cong (fun f hf => by rw [S.th hf, S.lv])
      have fin : ∀ r : Int32, ∃ r' h2 m2, some (r, h') = some (r', h2) ∧ some (r, m9) = some (r', m2) ∧ Rel (n + 1) h2 m2 := fun r => ⟨_, _, _, rfl, rfl, G, P.1.mod u2 v1 v3 v4⟩
      have fin7 : ∀ r : Int32, ∃ r' h2 m2, some (r, h7) = some (r', h2) ∧ some (r, m9) = some (r', m2) ∧ Rel (n + 1) h2 m2 := fun r => ⟨_, _, _, rfl, rfl, G, R7.mod u2 v1 v3 v4⟩
      by_cases k0 : x = 0
      · rw [if_pos k0, if_pos k0]
        by_cases k : bI q = 0
        · rw [if_pos k, if_pos k]; exact fin _
        · rw [if_neg k, if_neg k]; exact fin _
      · rw [if_neg k0, if_neg k0]
        by_cases k1 : x = 1
        · rw [if_pos k1, if_pos k1]; exact fin _
        · rw [if_neg k1, if_neg k1, al2]
          have hfar : gFar G (gTold Gp) ≤ 20 * 1000000 := fb_sm_bound (fun f hf => by
            by_cases t : gTh G f = true
            · have a1 := (hT f hf t).1
              have a2 := gLv_le R.iq R.2.2.1.1.2.1 f
              rw [if_pos t]
              unfold ad
              split <;> omega
            · rw [if_neg t]; omega)
          by_cases w : gFar G (gTold Gp) = 0
          · rw [w, if_pos lg00, (far0 _).mp w]
            exact fin7 _
          · have w2 : ¬ al (fun f => !gTh G f || decide (gTold Gp f = gLv G f)) 20 = true := fun y => w ((far0 _).mpr y)
            rw [if_neg (fun y => lN_ne0 (show 0 < gFar G (gTold Gp) by omega) (by omega) ((lg_cmp_eq _ _).mp y)), show al (fun f => !gTh G f || decide (gTold Gp f = gLv G f)) 20 = false by simpa using w2]
            exact fin7 _
    have key : ∀ d i fu h' m' Gp (y3 : Int32) (q : Bool), i + d = 60 → d < fu → PQ (n + 1) (b + 1) G Gp h' (th_up m 0 0 0) → MTh G Gp (th_up m 0 0 0) m' → SQ G Gp → ∃ r h2 m2, fX3_settling_c29 fu x (nI i) y3 (bI q) h' = some (r, h2) ∧ fX4_settling_c30 fu x (nI i) y3 (bI q) m' = some (r, m2) ∧ Rel (n + 1) h2 m2 := by
      intro d
      induction d with
      | zero =>
        intro i fu h' m' Gp y3 q hi hfu P M S
        obtain ⟨fu, rfl⟩ : ∃ z, fu = z + 1 := ⟨fu - 1, by omega⟩
        obtain rfl : i = 60 := by omega
        rw [fX3_settling_c29, fX4_settling_c30, if_neg (by decide), if_neg (by decide)]
        exact stop h' m' Gp _ y3 q P M S
      | succ d ih =>
        intro i fu h' m' Gp y3 q hi hfu P M S
        obtain ⟨fu, rfl⟩ : ∃ z, fu = z + 1 := ⟨fu - 1, by omega⟩
        rw [fX3_settling_c29, fX4_settling_c30, if_pos (show nI i < (60 : Int32) from nI_lt (a := i) (b := 60) (by omega) (by omega)), if_pos (show nI i < (60 : Int32) from nI_lt (a := i) (b := 60) (by omega) (by omega))]
        cases q with
        | true =>
          rw [if_neg (by decide), if_neg (by decide)]
          exact stop h' m' Gp _ y3 true P M S
        | false =>
          obtain ⟨h2', q2, P2⟩ := P.round (by omega)
          obtain ⟨m2, q3, M2⟩ := M.round P.2.2.1.1
          have S2 : SQ G (gRound Gp) := by
            have s2 := (gRound_ok P.2.2.1.1).2.sq
            exact ⟨fun l hl => (s2.1 l hl).trans (S.1 l hl), fun f j hf hj => (s2.2 f j hf hj).trans (S.2 f j hf hj)⟩
          rw [if_pos bI_f, if_pos bI_f, q2, e_bd, c_overbooked P2.2.1 P2.2.2.1, e_bd, q3, e_bd, m_overbooked M2.1 P2.2.2.1, e_bd, nI_1, Int32.add_zero]
          by_cases w : nI (mk (gOver (gRound Gp)) 10) = 0
          · rw [if_pos w, if_pos w]
            exact ih (i + 1) fu h2' m2 _ y3 _ (by omega) (by omega) P2 M2 S2
          · rw [if_neg w, if_neg w]
            exact ih (i + 1) fu h2' m2 _ _ _ (by omega) (by omega) P2 M2 S2
    exact key 60 0 1000 h5 m6 G 0 false (by omega) (by omega) P5 M6 SP.rf.sq
  · have g2 : ¬ ((OfNat.ofNat 0 : Int) ≤ x.toInt ∧ x.toInt ≤ (OfNat.ofNat 2 : Int)) := g
    rw [if_pos g2]
    by_cases w : x.toInt < 0
    · rw [if_pos w]; exact out
    · rw [if_neg w, if_pos (show 2 < x.toInt by omega)]; exact out
