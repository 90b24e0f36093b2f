/-! ===== copies: keep, again, paper ===== -/
theorem cp_cell {h : th_H} {a b n c : Nat} (hc : c ≠ b) : (th_cp h a b n).1 c = h.1 c := by
  funext j; simp [th_cp, hc]
theorem cp_in {h : th_H} {a b n j : Nat} (hj : j < n) : (th_cp h a b n).1 b j = h.1 a j := by simp [th_cp, hj]
section
variable {p p2 q q2 : Nat} {h h2 : th_H} {G : GR}
theorem c_copyP (R : RP p2 h G) (ap : p2 + 8 ≤ p ∨ p + 8 ≤ p2) : ∃ h2, fX0_copy p p2 h = some ((), h2) ∧ RP p h2 G ∧ (∀ j, j < 20 → h2.1 (p + 3) j = h.1 (p2 + 3) j) ∧ h2.1 p 8 = h.1 p 8 + 1 ∧ (∀ j, j ≠ 7 → j ≠ 8 → h2.1 p j = h.1 p j) ∧ (∀ c, (c < p ∨ p + 7 < c) → h2.1 c = h.1 c) ∧ h2.2 = h.2 := by
  unfold fX0_copy
  simp only [e_st]
  obtain ⟨a, b, c, d, e⟩ := R
  refine ⟨_, rfl, ⟨fun l hl => ?_, fun l hl => ?_, fun f hf => ?_, fun f hf ht => ⟨?_, ?_, ?_⟩, ?_⟩, fun j hj => ?_, ?_, fun j j7 j8 => ?_, fun c hc => ?_, rfl⟩
  · simp (disch := omega) only [up_cell, cp_cell, cp_in]
    exact a l hl
  · simp (disch := omega) only [up_cell, cp_cell, cp_in]
    exact b l hl
  · simp (disch := omega) only [up_cell, cp_cell, cp_in]
    exact c f hf
  · simp (disch := omega) only [up_cell, cp_cell, cp_in]
    exact (d f hf ht).1
  · simp (disch := omega) only [up_cell, cp_cell, cp_in]
    exact (d f hf ht).2.1
  · simp (disch := omega) only [up_cell, cp_cell, cp_in]
    exact (d f hf ht).2.2
  · rw [up_at, if_neg (by omega), up_same]
    simp (disch := omega) only [up_cell, cp_cell, cp_in]
    exact e
  · simp (disch := omega) only [up_cell, cp_cell, cp_in]
  · rw [up_same, up_at, if_neg (by omega)]
    simp (disch := omega) only [up_cell, cp_cell, cp_in]
  · rw [up_at, if_neg (by omega), up_at, if_neg (by omega)]
    simp (disch := omega) only [up_cell, cp_cell, cp_in]
  · simp (disch := omega) only [up_cell, cp_cell, cp_in]
theorem RQ.copied (R : RQ q2 h G) (rp : RP (q + 1) h2 G) (e3 : ∀ j, j < 20 → h2.1 (q + 1 + 3) j = h.1 (q2 + 1 + 3) j) (e9 : ∀ j, j < 200 → h2.1 (q + 9) j = h.1 (q2 + 9) j) (e10 : ∀ j, j < 200 → h2.1 (q + 10) j = h.1 (q2 + 10) j) (e11 : ∀ j, j < 20 → h2.1 (q + 11) j = h.1 (q2 + 11) j) (e12 : ∀ j, j < 10 → h2.1 (q + 12) j = h.1 (q2 + 12) j) (e13 : ∀ j, j < 20 → h2.1 (q + 13) j = h.1 (q2 + 13) j) (e14 : ∀ j, j < 20 → h2.1 (q + 14) j = h.1 (q2 + 14) j) (e15 : ∀ j, j < 20 → h2.1 (q + 15) j = h.1 (q2 + 15) j) (eq : ∀ j, 8 ≤ j → j ≤ 11 → h2.1 q j = h.1 q2 j) : RQ q h2 G := by
  obtain ⟨a, b, c, d, e, g, i, j, k⟩ := R
  refine ⟨rp, fun f hf ht => by rw [e3 f hf]; exact b f hf ht, fun l hl => by rw [e12 l hl]; exact c l hl, fun f hf ht => ?_, fun f hf ht => ?_, by rw [eq 8 (by omega) (by omega)]; exact g, by rw [eq 9 (by omega) (by omega)]; exact i, by rw [eq 10 (by omega) (by omega)]; exact j, by rw [eq 11 (by omega) (by omega)]; exact k⟩
  · rw [e11 f hf, e13 f hf, e14 f hf, e15 f hf]
    obtain ⟨d1, d2, d3, d4⟩ := d f hf ht
    refine ⟨d1, d2, d3, fun l hl => ?_⟩
    rw [e9 _ (by omega), e10 _ (by omega)]
    exact d4 l hl
  · rw [e11 f hf, e13 f hf]
    obtain ⟨d1, d2, d4⟩ := e f hf ht
    refine ⟨d1, d2, fun l hl => ?_⟩
    rw [e9 _ (by omega), e10 _ (by omega)]
    exact d4 l hl
theorem c_copyQ (R : RQ q2 h G) (ap : q2 + 18 ≤ q ∨ q + 18 ≤ q2) : ∃ h2, fX1_copy q q2 h = some ((), h2) ∧ RQ q h2 G ∧ h2.1 (q + 1) 8 = h.1 (q + 1) 8 + 1 ∧ h2.1 q 13 = h.1 q 13 ∧ (∀ c, (c < q ∨ q + 17 < c) → h2.1 c = h.1 c) ∧ h2.2 = h.2 := by
  obtain ⟨h1, q1, rp1, e3, e8, ej, ec, el⟩ := c_copyP (p := q + 1) R.1 (by omega)
  unfold fX1_copy
  rw [q1, e_bd]
  simp only [e_st]
  have hq2 : ∀ c, (c < q + 1 ∨ q + 8 < c) → h1.1 c = h.1 c := fun c hc => ec c (by omega)
  refine ⟨_, rfl, R.copied (q := q) (rp1.off (fun c x y _ => ?_) ?_) (fun j hj => ?_) (fun j hj => ?_) (fun j hj => ?_) (fun j hj => ?_) (fun j hj => ?_) (fun j hj => ?_) (fun j hj => ?_) (fun j hj => ?_) (fun j j8 j11 => ?_), ?_, ?_, fun c hc => ?_, el⟩
  · simp (disch := omega) only [up_cell, cp_cell, cp_in]
  · simp (disch := omega) only [up_cell, cp_cell, cp_in]
  · simp (disch := omega) only [up_cell, cp_cell, cp_in]
    exact e3 j hj
  · simp (disch := omega) only [up_cell, cp_cell, cp_in, hq2]
  · simp (disch := omega) only [up_cell, cp_cell, cp_in, hq2]
  · simp (disch := omega) only [up_cell, cp_cell, cp_in, hq2]
  · simp (disch := omega) only [up_cell, cp_cell, cp_in, hq2]
  · simp (disch := omega) only [up_cell, cp_cell, cp_in, hq2]
  · simp (disch := omega) only [up_cell, cp_cell, cp_in, hq2]
  · simp (disch := omega) only [up_cell, cp_cell, cp_in, hq2]
  · obtain rfl | rfl | rfl | rfl : j = 8 ∨ j = 9 ∨ j = 10 ∨ j = 11 := by omega
    · rw [up_at, if_neg (by omega), up_at, if_neg (by omega), up_at, if_neg (by omega), up_same]
      simp (disch := omega) only [up_cell, cp_cell, cp_in, hq2]
    · rw [up_at, if_neg (by omega), up_at, if_neg (by omega), up_same]
      simp (disch := omega) only [up_cell, cp_cell, cp_in, hq2]
    · rw [up_at, if_neg (by omega), up_same]
      simp (disch := omega) only [up_cell, cp_cell, cp_in, hq2]
    · rw [up_same]
      simp (disch := omega) only [up_cell, cp_cell, cp_in, hq2]
  · simp (disch := omega) only [up_cell, cp_cell, cp_in]
    exact e8
  · rw [up_at, if_neg (by omega), up_at, if_neg (by omega), up_at, if_neg (by omega), up_at, if_neg (by omega)]
    simp (disch := omega) only [up_cell, cp_cell, cp_in, hq2]
  · simp (disch := omega) only [up_cell, cp_cell, cp_in, hq2]
theorem m_copy {a na b nb s t : Nat} (hab : a ≠ b) (hs : s + 643 ≤ na) (ht : t + 643 ≤ nb) (hna : na < 2147483648) (hnb : nb < 2147483648) (h : th_H) : ∃ h2, fX4_copy a na b nb (nI s) (nI t) h = some ((), h2) ∧ (∀ k, k < 643 → h2.1 b (t + k) = h.1 a (s + k)) ∧ (∀ k, (k < t ∨ t + 643 ≤ k) → h2.1 b k = h.1 b k) ∧ (∀ c, c ≠ b → h2.1 c = h.1 c) ∧ h2.2 = h.2 := by
  have key : ∀ d i fu h1, i + d = 643 → d < fu → (∀ k, k < i → h1.1 b (t + k) = h.1 a (s + k)) → (∀ k, (k < t ∨ t + 643 ≤ k) → h1.1 b k = h.1 b k) → (∀ c, c ≠ b → h1.1 c = h.1 c) → h1.2 = h.2 → ∃ h2, fX4_copy_c3 a na b nb fu (nI s) (nI t) (nI i) h1 = some ((), h2) ∧ (∀ k, k < 643 → h2.1 b (t + k) = h.1 a (s + k)) ∧ (∀ k, (k < t ∨ t + 643 ≤ k) → h2.1 b k = h.1 b k) ∧ (∀ c, c ≠ b → h2.1 c = h.1 c) ∧ h2.2 = h.2 := by
    intro d
    induction d with
    | zero =>
      intro i fu h1 hi hfu P1 P2 P3 P4
      obtain ⟨fu, rfl⟩ : ∃ z, fu = z + 1 := ⟨fu - 1, by omega⟩
      obtain rfl : i = 643 := by omega
      rw [fX4_copy_c3, if_neg (by decide)]
      exact ⟨h1, rfl, P1, P2, P3, P4⟩
    | succ d ih =>
      intro i fu h1 hi hfu P1 P2 P3 P4
      obtain ⟨fu, rfl⟩ : ∃ z, fu = z + 1 := ⟨fu - 1, by omega⟩
      rw [fX4_copy_c3, if_pos (show nI i < (643 : Int32) from nI_lt (a := i) (b := 643) (by omega) (by omega)), nI_add, nI_add, e_rd (by omega) hna, e_wr (by omega) hnb, nI_1]
      refine ih (i + 1) fu _ (by omega) (by omega) (fun k hk => ?_) (fun k hk => ?_) (fun c hc => by rw [up_cell hc]; exact P3 c hc) P4
      · rw [up_at]
        by_cases z : k = i
        · rw [if_pos ⟨rfl, by omega⟩, z, P3 a hab]
        · rw [if_neg (by omega)]; exact P1 k (by omega)
      · rw [up_at, if_neg (by omega)]; exact P2 k hk
  exact key 643 0 1000 h (by omega) (by omega) (fun k hk => absurd hk (Nat.not_lt_zero k)) (fun _ _ => rfl) (fun _ _ => rfl) rfl
theorem m_think {m : th_H} (R : RM m G) : ∃ m2, fX4_think m = some ((), m2) ∧ (∀ k, k < 643 → m2.1 5 k = nI (G k)) ∧ (∀ c, c ≠ 5 → m2.1 c = m.1 c) ∧ m2.2 = m.2 := by
  obtain ⟨m2, q, a, -, c, d⟩ := m_copy (a := 2) (na := 643) (b := 5) (nb := 643) (s := 0) (t := 0) (by omega) (by omega) (by omega) (by omega) (by omega) m
  have q' : fX4_copy 2 643 5 643 0 0 m = some ((), m2) := q
  unfold fX4_think
  rw [q']
  refine ⟨m2, rfl, fun k hk => ?_, c, d⟩
  have := a k hk
  rw [Nat.zero_add, R k hk] at this
  exact this
theorem m_end {m : th_H} (A : ∀ k, k < 643 → m.1 5 k = nI (G k)) : ∃ m2, fX4_endThought m = some ((), m2) ∧ RM m2 G ∧ (∀ c, c ≠ 2 → m2.1 c = m.1 c) ∧ m2.2 = m.2 := by
  obtain ⟨m2, q, a, -, c, d⟩ := m_copy (a := 5) (na := 643) (b := 2) (nb := 643) (s := 0) (t := 0) (by omega) (by omega) (by omega) (by omega) (by omega) m
  have q' : fX4_copy 5 643 2 643 0 0 m = some ((), m2) := q
  unfold fX4_endThought
  rw [q']
  refine ⟨m2, rfl, fun k hk => ?_, c, d⟩
  have := a k hk
  rw [Nat.zero_add, A k hk] at this
  exact this
end
section
variable {n c q j N : Nat} {h m h2 m2 : th_H} {G Gk : GR}
theorem KP.keep2 (K : KP c q j h m) (e0 : h2.1 0 c = h.1 0 c) (e : ∀ d, q ≤ d → d ≤ q + 17 → h2.1 d = h.1 d) (e3 : ∀ k, k < 643 → m2.1 3 (643 * j + k) = m.1 3 (643 * j + k)) (e4 : m2.1 4 j = m.1 4 j) : KP c q j h2 m2 := by
  rcases K with ⟨a, b⟩ | ⟨a, b, Gk, R, I, P⟩
  · exact Or.inl ⟨by rw [e0]; exact a, by rw [e4]; exact b⟩
  · exact Or.inr ⟨by rw [e0]; exact a, by rw [e4]; exact b, Gk, R.cells e, I, fun k hk => by rw [e3 k hk]; exact P k hk⟩
/-- what goes on on paper -/
theorem RelG.pap (R : RelG N G h m) (hk : ∀ c, (c ≤ 26 ∨ (53 ≤ c ∧ c ≤ 89)) → h2.1 c = h.1 c) {b : Nat} (e28 : h2.1 28 8 = nI b) (hb : b ≤ 100 * N) (s27 : SE (h2.1 27 13) b) (s45 : SE (h2.1 45 9) b) (rm : RM m2 G) (e1 : m2.1 1 = m.1 1) (e3 : m2.1 3 = m.1 3) (e4 : m2.1 4 = m.1 4) : RelG N G h2 m2 := by
  obtain ⟨rq, -, ii, oc, fw, ⟨a, b0, f1, f2, f3, f4, f5, f6, f7, f8⟩, -, -, -⟩ := id R
  refine R.next (fun c hc => hk c (by omega)) (rq.cells (fun c _ _ => hk c (by omega))) rm ii (oc.keep (by rw [hk 1 (by omega)]) (by rw [hk (1 + 1) (by omega)]) (by rw [hk (1 + 16) (by omega)]) (fun _ _ => rfl)) (fun z => ?_) ⟨a, b, ?_⟩ e1 e3 e4
  · rw [hk 19 (by omega), hk 2 (by omega)] at z
    exact FW.cells (fw z) (fun c p q => hk c (by omega))
  · rw [hk 2 (by omega), hk 1 (by omega), hk 19 (by omega)]
    exact ⟨f1, e28, f3, hb, f5, f6, s27, s45⟩
theorem RelG.mod (R : RelG N G h m) (rm : RM m2 G) (e1 : m2.1 1 = m.1 1) (e3 : m2.1 3 = m.1 3) (e4 : m2.1 4 = m.1 4) : RelG N G h m2 := by
  obtain ⟨rq, -, ii, oc, fw, ed, -, -, -⟩ := id R
  exact R.next (fun _ _ => rfl) rq rm ii oc fw ed e1 e3 e4
end
theorem keep_one {n c q j : Nat} {h m : th_H} {G : GR} (R : RelG n G h m) (hj : (c = 7 ∧ q = 53 ∧ j = 0) ∨ (c = 8 ∧ q = 71 ∧ j = 1)) : ∃ h1 m4, fX1_copy q 1 h = some ((), h1) ∧ fX4_copy 2 643 3 1286 0 ((643 : Int32) * nI j) (th_up m 0 0 0) = some ((), m4) ∧ Rel (n + 1) (th_up h1 0 c 1) (th_up m4 4 j 1) := by
  have R0 := R.th0
  obtain ⟨h1, q1, rq1, e8, e13, ec, el⟩ := c_copyQ (q := q) R0.1 (by omega)
  obtain ⟨m4, q4, a4, b4, c4, d4⟩ := m_copy (a := 2) (na := 643) (b := 3) (nb := 1286) (s := 0) (t := 643 * j) (by omega) (by omega) (by omega) (by omega) (by omega) (th_up m 0 0 0)
  refine ⟨h1, m4, q1, by rw [e_lmul]; exact q4, G, ?_⟩
  obtain ⟨rq, rm, ii, oc, fw, ⟨a, b, f1, f2, f3, f4, f5, f6, f7, f8⟩, k1, k2, rf⟩ := R0
  have hc : ∀ k, k ≠ 0 → (k < q ∨ q + 17 < k) → (th_up h1 0 c 1).1 k = h.1 k := fun k h0 hk => by rw [up_cell h0]; exact ec k hk
  have mc : ∀ k, k ≠ 3 → k ≠ 4 → (th_up m4 4 j 1).1 k = (th_up m 0 0 0).1 k := fun k h3 h4 => by rw [up_cell h4, c4 k h3]
  have kept : ∃ Gk, RQ q (th_up h1 0 c 1) Gk ∧ II Gk ∧ ∀ k, k < 643 → (th_up m4 4 j 1).1 3 (643 * j + k) = nI (Gk k) := ⟨G, rq1.cells (fun d x y => up_cell (by omega)), ii, fun k hk => by
    rw [up_cell (by omega), a4 k hk, Nat.zero_add]
    exact rm k hk⟩
  refine ⟨rq.cells (fun k x y => hc k (by omega) (by omega)), rm.off (mc 2 (by omega) (by omega)), ii, oc.keep (by rw [hc 1 (by omega) (by omega)]) (by rw [hc (1 + 1) (by omega) (by omega)]) (by rw [hc (1 + 16) (by omega) (by omega)]) (fun _ _ => rfl), fun z => ?_, ⟨a, b, ?_⟩, ?_, ?_, fun i hi => ?_⟩
  · rw [hc 19 (by omega) (by omega), hc 2 (by omega) (by omega)] at z
    exact FW.cells (fw z) (fun k x y => hc k (by omega) (by omega))
  · rw [hc 2 (by omega) (by omega), hc 28 (by omega) (by omega), hc 1 (by omega) (by omega), hc 19 (by omega) (by omega), hc 27 (by omega) (by omega), hc 45 (by omega) (by omega)]
    exact ⟨f1, f2, by omega, by omega, f5, f6, f7, f8⟩
  · rcases hj with ⟨rfl, rfl, rfl⟩ | ⟨rfl, rfl, rfl⟩
    · exact Or.inr ⟨up_same, up_same, kept⟩
    · refine k1.keep2 ?_ (fun d x y => hc d (by omega) (by omega)) (fun k hk => ?_) ?_
      · rw [up_at, if_neg (by omega), ec 0 (by omega)]
      · rw [up_cell (by omega), b4 _ (by omega)]
      · rw [up_at, if_neg (by omega), c4 4 (by omega)]
  · rcases hj with ⟨rfl, rfl, rfl⟩ | ⟨rfl, rfl, rfl⟩
    · refine k2.keep2 ?_ (fun d x y => hc d (by omega) (by omega)) (fun k hk => ?_) ?_
      · rw [up_at, if_neg (by omega), ec 0 (by omega)]
      · rw [up_cell (by omega), b4 _ (by omega)]
      · rw [up_at, if_neg (by omega), c4 4 (by omega)]
    · exact Or.inr ⟨up_same, up_same, kept⟩
  · rw [hc 89 (by omega) (by omega), mc 1 (by omega) (by omega)]
    exact rf i hi
theorem s_keep (x : Int32) : Sp2 (fX3_keep x) (fX4_keep x) := by
  intro n h m hn ⟨G, R⟩
  have R0 := R.th0
  unfold fX3_keep fX4_keep
  rw [e_st, m_inl x 0 1 (by decide) (by decide), e_bd, ic e_c0]
  by_cases d : 0 ≤ x.toInt ∧ x.toInt ≤ 1
  · obtain ⟨j, hj, e⟩ := rng (x := x) (n := 2) (by omega) (by omega)
    subst e
    rw [if_neg (not_not_intro d)]
    obtain rfl | rfl : j = 0 ∨ j = 1 := by omega
    · obtain ⟨h1, m4, q1, q4, R1⟩ := keep_one (c := 7) (q := 53) (j := 0) R (Or.inl ⟨rfl, rfl, rfl⟩)
      rw [if_pos (show nI 0 = 0 from rfl), q1, e_bd, e_st, q4, e_bd, e_wr (by omega) (by omega)]
      exact ⟨_, _, _, rfl, rfl, R1⟩
    · obtain ⟨h1, m4, q1, q4, R1⟩ := keep_one (c := 8) (q := 71) (j := 1) R (Or.inr ⟨rfl, rfl, rfl⟩)
      rw [if_neg (show ¬ nI 1 = 0 by decide), if_pos (show nI 1 = 1 from rfl), q1, e_bd, e_st, q4, e_bd, e_wr (by omega) (by omega)]
      exact ⟨_, _, _, rfl, rfl, R1⟩
  · rw [if_pos d, if_neg (fun e => d (by rw [e]; decide)), if_neg (fun e => d (by rw [e]; decide))]
    exact ⟨_, _, _, rfl, rfl, G, R0.inc⟩
theorem again_one {n c q j : Nat} {h m : th_H} {G : GR} (R : RelG n G h m) (hn : n < 512) (hj : j < 2) (hq : 19 ≤ q) (K : KP c q j h (th_up m 0 0 0)) : (h.1 0 c = 0 ∧ (th_up m 0 0 0).1 4 j = 0) ∨ (¬ h.1 0 c = 0 ∧ ¬ (th_up m 0 0 0).1 4 j = 0 ∧ ∃ h2 m2, fX1_copy 1 q h = some ((), h2) ∧ fX4_copy 3 1286 2 643 ((643 : Int32) * nI j) 0 (th_up m 0 0 0) = some ((), m2) ∧ Rel (n + 1) h2 m2) := by
  have R0 := R.th0
  rcases K with ⟨a, b⟩ | ⟨a, b, Gk, rqk, ik, P⟩
  · exact Or.inl ⟨a, b⟩
  · right
    refine ⟨by rw [a]; decide, by rw [b]; decide, ?_⟩
    obtain ⟨h2, q2, rq2, e8, e13, ec, el⟩ := c_copyQ (q := 1) rqk (by omega)
    obtain ⟨m2, q4, a4, b4, c4, d4⟩ := m_copy (a := 3) (na := 1286) (b := 2) (nb := 643) (s := 643 * j) (t := 0) (by omega) (by omega) (by omega) (by omega) (by omega) (th_up m 0 0 0)
    have rm : RM m2 Gk := fun k hk => by
      have := a4 k hk
      rw [Nat.zero_add, P k hk] at this
      exact this
    refine ⟨h2, m2, q2, by rw [e_lmul]; exact q4, Gk, R0.edit hn (j := 1) (by omega) (by omega) (fun k hk => ec k (by omega)) e13 e8 rq2 ik (s := []) ⟨rm, fun k _ hk => c4 k hk, d4⟩ (by simp) (by simp) (by simp)⟩
theorem s_again (x : Int32) : Sp2 (fX3_again x) (fX4_again x) := by
  intro n h m hn ⟨G, R⟩
  have R0 := R.th0
  unfold fX3_again fX4_again fX3_again_c24
  rw [e_st, m_inl x 0 1 (by decide) (by decide), e_bd, ic e_c0]
  by_cases d : 0 ≤ x.toInt ∧ x.toInt ≤ 1
  · obtain ⟨j, hj, e⟩ := rng (x := x) (n := 2) (by omega) (by omega)
    subst e
    rw [if_neg (not_not_intro d), e_rd hj (by omega)]
    obtain rfl | rfl : j = 0 ∨ j = 1 := by omega
    · rw [if_pos (show nI 0 = 0 from rfl), if_neg (show ¬ nI 0 = 1 by decide)]
      rcases again_one R hn hj (by omega) R0.2.2.2.2.2.2.1 with ⟨a, b⟩ | ⟨a, b, h2, m2, q2, q3, R1⟩
      · rw [if_pos a, if_pos b]
        exact ⟨_, _, _, rfl, rfl, G, R0.inc⟩
      · rw [if_neg a, if_neg b, q2, q3, e_bd, e_bd]
        exact ⟨_, _, _, rfl, rfl, R1⟩
    · rw [if_neg (show ¬ nI 1 = 0 by decide), if_pos (show nI 1 = 1 from rfl)]
      rcases again_one R hn hj (by omega) R0.2.2.2.2.2.2.2.1 with ⟨a, b⟩ | ⟨a, b, h2, m2, q2, q3, R1⟩
      · rw [if_pos a, if_pos b]
        exact ⟨_, _, _, rfl, rfl, G, R0.inc⟩
      · rw [if_neg a, if_neg b, q2, q3, e_bd, e_bd]
        exact ⟨_, _, _, rfl, rfl, R1⟩
  · rw [if_pos d, if_neg (fun e => d (by rw [e]; decide)), if_neg (fun e => d (by rw [e]; decide))]
    exact ⟨_, _, _, rfl, rfl, G, R0.inc⟩
