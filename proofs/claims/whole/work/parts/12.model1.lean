/-! ===== the reference's own small functions ===== -/
theorem m_lt (x y : Int64) : (lg_cmp x y < 0) = (x < y) := by
  unfold lg_cmp
  by_cases h : x > y
  · rw [if_pos h]
    refine propext ⟨fun q => absurd q (by decide), fun q => ?_⟩
    rw [fa_lt64] at q
    have h2 := (fa_lt64 y x).mp h
    omega
  · rw [if_neg h]
    by_cases e : x = y
    · rw [if_pos e, e]
      refine propext ⟨fun q => absurd q (by decide), fun q => ?_⟩
      rw [fa_lt64] at q
      omega
    · rw [if_neg e]
      refine propext ⟨fun _ => ?_, fun _ => by decide⟩
      rw [fa_lt64]
      have h1 : ¬ y.toInt < x.toInt := fun q => h ((fa_lt64 y x).mpr q)
      have h2 : ¬ x.toInt = y.toInt := fun q => e ((fa_eq64 x y).mpr q)
      omega
theorem m_gt (x y : Int64) : (0 < lg_cmp x y) = (y < x) := by
  unfold lg_cmp
  by_cases h : x > y
  · rw [if_pos h]
    exact propext ⟨fun _ => h, fun _ => by decide⟩
  · rw [if_neg h]
    by_cases e : x = y
    · rw [if_pos e]
      exact propext ⟨fun q => absurd q (by decide), fun q => absurd q h⟩
    · rw [if_neg e]
      exact propext ⟨fun q => absurd q (by decide), fun q => absurd q h⟩
theorem m_in (x : Int32) (a b : Nat) (ha : a < 2147483648) (hb : b < 2147483648) (h : th_H) : fX4_in (Int32.toInt64 x) (lN a) (lN b) h = some (if (a : Int) ≤ x.toInt ∧ x.toInt ≤ b then 1 else 0, h) := by
  unfold fX4_in
  simp only [m_lt, m_gt]
  have e1 : (Int32.toInt64 x < lN a) = (x.toInt < a) := by rw [fa_lt64, Int32.toInt_toInt64, lN_toInt ha]
  have e2 : (lN b < Int32.toInt64 x) = ((b : Int) < x.toInt) := by rw [fa_lt64, Int32.toInt_toInt64, lN_toInt hb]
  simp only [e1, e2]
  by_cases c1 : x.toInt < a
  · rw [if_pos c1, if_neg (by omega)]
  · rw [if_neg c1]
    by_cases c2 : (b : Int) < x.toInt
    · rw [if_pos c2, if_neg (by omega)]
    · rw [if_neg c2, if_pos (by omega)]
theorem m_inl (x : Int32) (a b : Nat) (ha : (OfNat.ofNat a : Nat) < 2147483648) (hb : (OfNat.ofNat b : Nat) < 2147483648) (h : th_H) : fX4_in (Int32.toInt64 x) (no_index (OfNat.ofNat a)) (no_index (OfNat.ofNat b)) h = some (if (OfNat.ofNat a : Int) ≤ x.toInt ∧ x.toInt ≤ OfNat.ofNat b then 1 else 0, h) := by
  rw [fa_litL, fa_litL]
  exact m_in x a b ha hb h
theorem m_at (f : Nat) (h : th_H) : fX4_at (nI f) h = some (nI (23 + 11 * f), h) := by
  unfold fX4_at
  rw [e_lmul, e_ladd]
theorem m_lesser {a b : Nat} (ha : a < 2147483648) (hb : b < 2147483648) (h : th_H) : fX4_lesser (nI a) (nI b) h = some (nI (min a b), h) := by
  unfold fX4_lesser
  rw [ic (e_lt ha hb)]
  by_cases c : a < b
  · rw [if_pos c, Nat.min_eq_left (by omega)]
  · rw [if_neg c, Nat.min_eq_right (by omega)]
theorem m_isLink (x : Int32) (h : th_H) : fX4_isLink x h = some (if 0 ≤ x.toInt ∧ x.toInt ≤ 9 then 1 else 0, h) := by
  unfold fX4_isLink
  simp (disch := omega) only [m_inl, e_bd, e_gbc]
theorem m_areLinks (x : Int32) (h : th_H) : fX4_areLinks x h = some (if 1 ≤ x.toInt ∧ x.toInt ≤ 1023 then 1 else 0, h) := by
  unfold fX4_areLinks
  simp (disch := omega) only [m_inl, e_bd, e_gbc]
section
variable {h : th_H} {G : GR}
theorem m_row (R : RM h G) {α : Type} {i : Nat} {k : Int32 → Option α} (hi : i < 643) : th_rd h 2 643 (nI i) k = k (nI (G i)) := by
  rw [e_rd hi (by omega), R i hi]
theorem gTh_iff (f : Nat) : (G (23 + 11 * f) = 1) = (gTh G f = true) := by simp [gTh]
theorem IQ.small (I : IQ G) {f : Nat} (hf : f < 20) : G (23 + 11 * f) < 2147483648 := by
  have := (I.2 f hf).1
  omega
theorem m_isFlow (R : RM h G) (I : IQ G) {f : Nat} (hf : f < 20) : fX4_isFlow (nI f) h = some (if gTh G f = true then 1 else 0, h) := by
  have h1 := I.small hf
  unfold fX4_isFlow
  have e : (0 : Int) ≤ (nI f).toInt ∧ (nI f).toInt ≤ 19 := by rw [nI_toInt (by omega)]; omega
  simp (disch := omega) only [e_bd, e_st, e_addl, e_ladd, e_lmul, nI_add, nI_1, pk_mul, e_ltl, e_llt, e_eql, e_lt, e_eq, e_c0, e_c1, e_10, e_01, e_gb0, e_gb1, e_gbc, e_dv, ↓reduceIte, not_true_eq_false, not_false_eq_true, and_self, and_true, true_and, Bool.false_eq_true, Nat.reduceAdd, Nat.reduceMul, m_inl, m_at, m_lesser, m_isLink, m_areLinks, e, m_row R, gTh_iff]
  by_cases c : gTh G f = true
  · simp only [if_pos c]
  · simp only [if_neg c]
theorem m_noFlow {x : Int32} (hx : ¬ (0 ≤ x.toInt ∧ x.toInt ≤ 19)) : fX4_isFlow x h = some (0, h) := by
  unfold fX4_isFlow
  simp (disch := omega) only [e_bd, e_st, e_addl, e_ladd, e_lmul, nI_add, nI_1, pk_mul, e_ltl, e_llt, e_eql, e_lt, e_eq, e_c0, e_c1, e_10, e_01, e_gb0, e_gb1, e_gbc, e_dv, ↓reduceIte, not_true_eq_false, not_false_eq_true, and_self, and_true, true_and, Bool.false_eq_true, Nat.reduceAdd, Nat.reduceMul, m_inl, m_at, m_lesser, m_isLink, m_areLinks, hx]
theorem m_goesOver (R : RM h G) (I : IQ G) {f l : Nat} (hf : f < 20) (hl : l < 10) : fX4_goesOver (nI f) (nI l) h = some (if gOv G f l = true then 1 else 0, h) := by
  have h1 := I.small hf
  unfold fX4_goesOver
  simp (disch := omega) only [e_bd, e_st, e_addl, e_ladd, e_lmul, nI_add, nI_1, pk_mul, e_ltl, e_llt, e_eql, e_lt, e_eq, e_c0, e_c1, e_10, e_01, e_gb0, e_gb1, e_gbc, e_dv, ↓reduceIte, not_true_eq_false, not_false_eq_true, and_self, and_true, true_and, Bool.false_eq_true, Nat.reduceAdd, Nat.reduceMul, m_inl, m_at, m_lesser, m_isLink, m_areLinks, m_row R, gTh_iff]
  by_cases c : gTh G f = true
  · obtain ⟨-, a, -⟩ := (I.2 f hf).2 c
    have e : G (23 + 11 * f + 2) = gPath G f := rfl
    have e2 : gOv G f l = (gPath G f).testBit l := by simp [gOv, c]
    simp (disch := omega) only [if_pos c, e, e_bit, e_c1, e2]
    by_cases c2 : (gPath G f).testBit l = true
    · simp only [if_pos c2]
    · simp only [if_neg c2]
  · have e2 : ¬ gOv G f l = true := by simp [gOv, c]
    simp only [if_neg c, if_neg e2]
theorem gMany_sum (I : IQ G) : ∀ n, n ≤ 20 → fb_sm (fun f => G (23 + 11 * f)) n = fb_ct (gTh G) n := by
  intro n
  induction n with
  | zero => intro _; rfl
  | succ n ih =>
    intro hn
    rw [fb_sm_succ, fb_ct_succ, ih (by omega)]
    have h1 := (I.2 n (by omega)).1
    by_cases c : gTh G n = true
    · have h2 : G (23 + 11 * n) = 1 := by rw [gTh_iff]; exact c
      rw [h2, if_pos c]
    · have h2 : ¬ G (23 + 11 * n) = 1 := by rw [gTh_iff]; exact c
      rw [if_neg c]
      omega
theorem m_flowMany (R : RM h G) (I : IQ G) : fX4_flowMany h = some (nI (gMany G), h) := by
  unfold fX4_flowMany gMany
  rw [← gMany_sum I 20 (by omega)]
  refine for_up 20 (fun fu i => fX4_flowMany_c4 fu (nI (fb_sm (fun f => G (23 + 11 * f)) i)) (nI i) h) _ ?_ ?_ (by omega)
  · intro fu i hi
    simp (disch := omega) only [fX4_flowMany_c4, e_bd, e_st, e_addl, e_ladd, e_lmul, nI_add, nI_1, pk_mul, e_ltl, e_llt, e_eql, e_lt, e_eq, e_c0, e_c1, e_10, e_01, e_gb0, e_gb1, e_gbc, e_dv, ↓reduceIte, not_true_eq_false, not_false_eq_true, and_self, and_true, true_and, Bool.false_eq_true, Nat.reduceAdd, Nat.reduceMul, m_inl, m_at, m_lesser, m_isLink, m_areLinks, hi, m_row R, fb_sm_succ]
  · intro fu
    simp (disch := omega) only [fX4_flowMany_c4, e_bd, e_st, e_addl, e_ladd, e_lmul, nI_add, nI_1, pk_mul, e_ltl, e_llt, e_eql, e_lt, e_eq, e_c0, e_c1, e_10, e_01, e_gb0, e_gb1, e_gbc, e_dv, ↓reduceIte, not_true_eq_false, not_false_eq_true, and_self, and_true, true_and, Bool.false_eq_true, Nat.reduceAdd, Nat.reduceMul, m_inl, m_at, m_lesser, m_isLink, m_areLinks, Nat.lt_irrefl]
theorem m_rate (R : RM h G) (I : IQ G) {f t : Nat} (hf : f < 20) (c : gTh G f = true) (ht : t ≤ 1000001) : fX4_rate (nI f) (nI t) h = some (nI (gRate G f t), h) := by
  obtain ⟨-, -, a, b, d, e⟩ := (I.2 f hf).2 c
  have hm : gWt G f * t ≤ 9 * 1000001 := Nat.mul_le_mul b ht
  have e3 : G (23 + 11 * f + 3) = gWt G f := rfl
  have e4 : G (23 + 11 * f + 4) = gLeast G f := rfl
  unfold fX4_rate
  simp (disch := omega) only [e_bd, e_st, e_addl, e_ladd, e_lmul, nI_add, nI_1, pk_mul, e_ltl, e_llt, e_eql, e_lt, e_eq, e_c0, e_c1, e_10, e_01, e_gb0, e_gb1, e_gbc, e_dv, ↓reduceIte, not_true_eq_false, not_false_eq_true, and_self, and_true, true_and, Bool.false_eq_true, Nat.reduceAdd, Nat.reduceMul, m_inl, m_at, m_lesser, m_isLink, m_areLinks, m_row R, e3, e4]
  unfold gRate
  by_cases q : gLeast G f < gWt G f * t
  · rw [if_pos q, Nat.max_eq_left (by omega)]
  · rw [if_neg q, Nat.max_eq_right (by omega)]
theorem m_own (R : RM h G) (I : IQ G) {f : Nat} (hf : f < 20) (c : gTh G f = true) : fX4_own (nI f) h = some (nI (gOwn G f), h) := by
  obtain ⟨-, -, a, b, d, e⟩ := (I.2 f hf).2 c
  have e3 : G (23 + 11 * f + 3) = gWt G f := rfl
  have e5 : G (23 + 11 * f + 5) = gWant G f := rfl
  unfold fX4_own
  simp (disch := omega) only [e_bd, e_st, e_addl, e_ladd, e_lmul, nI_add, nI_1, pk_mul, e_ltl, e_llt, e_eql, e_lt, e_eq, e_c0, e_c1, e_10, e_01, e_gb0, e_gb1, e_gbc, e_dv, ↓reduceIte, not_true_eq_false, not_false_eq_true, and_self, and_true, true_and, Bool.false_eq_true, Nat.reduceAdd, Nat.reduceMul, m_inl, m_at, m_lesser, m_isLink, m_areLinks, m_row R, e3, e5, pk_div]
  rfl
theorem m_bound (R : RM h G) (I : IQ G) {l : Nat} (hl : l < 10) : fX4_bound (nI l) h = some (nI (gBnd G l), h) := by
  unfold fX4_bound gBnd
  refine for_up 20 (fun fu i => fX4_bound_c4 fu (nI l) (nI (fb_sm (fun f => if gOv G f l = true then gLeast G f else 0) i)) (nI i) h) _ ?_ ?_ (by omega)
  · intro fu i hi
    simp (disch := omega) only [fX4_bound_c4, e_bd, e_st, e_addl, e_ladd, e_lmul, nI_add, nI_1, pk_mul, e_ltl, e_llt, e_eql, e_lt, e_eq, e_c0, e_c1, e_10, e_01, e_gb0, e_gb1, e_gbc, e_dv, ↓reduceIte, not_true_eq_false, not_false_eq_true, and_self, and_true, true_and, Bool.false_eq_true, Nat.reduceAdd, Nat.reduceMul, m_inl, m_at, m_lesser, m_isLink, m_areLinks, hi, m_row R, m_goesOver R I hi hl, fb_sm_succ]
    by_cases c : gOv G i l = true
    · simp only [c, not_true_eq_false, ↓reduceIte]
      rfl
    · simp only [c, not_false_eq_true, Bool.false_eq_true, ↓reduceIte]
  · intro fu
    simp (disch := omega) only [fX4_bound_c4, e_bd, e_st, e_addl, e_ladd, e_lmul, nI_add, nI_1, pk_mul, e_ltl, e_llt, e_eql, e_lt, e_eq, e_c0, e_c1, e_10, e_01, e_gb0, e_gb1, e_gbc, e_dv, ↓reduceIte, not_true_eq_false, not_false_eq_true, and_self, and_true, true_and, Bool.false_eq_true, Nat.reduceAdd, Nat.reduceMul, m_inl, m_at, m_lesser, m_isLink, m_areLinks, Nat.lt_irrefl]
theorem gBnd_small (I : IQ G) (l n : Nat) (hn : n ≤ 20) : fb_sm (fun f => if gOv G f l = true then gLeast G f else 0) n ≤ n * 1000000 := by
  refine fb_sm_bound (fun f hf => ?_)
  by_cases c : gOv G f l = true
  · rw [if_pos c]
    obtain ⟨-, -, -, -, -, a, b⟩ := I.ov (by omega) c
    omega
  · rw [if_neg c]; omega
theorem m_isBound (R : RM h G) (I : IQ G) : fX4_isBound h = some (if al (fun l => decide (gBnd G l ≤ gCap G l)) 10 = true then 1 else 0, h) := by
  unfold fX4_isBound
  refine for_up 10 (fun fu i => fX4_isBound_c4 fu (if al (fun l => decide (gBnd G l ≤ gCap G l)) i = true then 1 else 0) (nI i) h) _ ?_ ?_ (by omega)
  · intro fu i hi
    have k1 : gBnd G i ≤ 20 * 1000000 := gBnd_small I i 20 (by omega)
    have k2 := I.1 i hi
    have e : G (3 + i) = gCap G i := rfl
    simp (disch := omega) only [fX4_isBound_c4, e_bd, e_st, e_addl, e_ladd, e_lmul, nI_add, nI_1, pk_mul, e_ltl, e_llt, e_eql, e_lt, e_eq, e_c0, e_c1, e_10, e_01, e_gb0, e_gb1, e_gbc, e_dv, ↓reduceIte, not_true_eq_false, not_false_eq_true, and_self, and_true, true_and, Bool.false_eq_true, Nat.reduceAdd, Nat.reduceMul, m_inl, m_at, m_lesser, m_isLink, m_areLinks, hi, m_bound R I hi, m_row R, e, al, Bool.and_eq_true, decide_eq_true_eq]
    by_cases c : al (fun l => decide (gBnd G l ≤ gCap G l)) i = true
    · by_cases q : gCap G i < gBnd G i
      · have q2 : ¬ gBnd G i ≤ gCap G i := by omega
        simp [c, q, q2]
      · have q2 : gBnd G i ≤ gCap G i := by omega
        simp [c, q, q2]
    · simp [c]
  · intro fu
    simp (disch := omega) only [fX4_isBound_c4, e_bd, e_st, e_addl, e_ladd, e_lmul, nI_add, nI_1, pk_mul, e_ltl, e_llt, e_eql, e_lt, e_eq, e_c0, e_c1, e_10, e_01, e_gb0, e_gb1, e_gbc, e_dv, ↓reduceIte, not_true_eq_false, not_false_eq_true, and_self, and_true, true_and, Bool.false_eq_true, Nat.reduceAdd, Nat.reduceMul, m_inl, m_at, m_lesser, m_isLink, m_areLinks, Nat.lt_irrefl]
theorem m_elsewhere (R : RM h G) {f l : Nat} (hf : f < 20) (hl : l < 10) (ha : gAh G f l < 2147483648) (hb : gBh G f l < 2147483648) : fX4_elsewhere (nI f) (nI l) h = some (nI (gEls G f l), h) := by
  have e1 : G (243 + 10 * f + l) = gAh G f l := rfl
  have e2 : G (443 + 10 * f + l) = gBh G f l := rfl
  unfold fX4_elsewhere
  simp (disch := omega) only [e_bd, e_st, e_addl, e_ladd, e_lmul, nI_add, nI_1, pk_mul, e_ltl, e_llt, e_eql, e_lt, e_eq, e_c0, e_c1, e_10, e_01, e_gb0, e_gb1, e_gbc, e_dv, ↓reduceIte, not_true_eq_false, not_false_eq_true, and_self, and_true, true_and, Bool.false_eq_true, Nat.reduceAdd, Nat.reduceMul, m_inl, m_at, m_lesser, m_isLink, m_areLinks, m_row R, e1, e2]
  rfl
end
