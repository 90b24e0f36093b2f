/-! ===== proof ===== -/
section
variable {w p : Nat} {h : th_H} {G : GR}
theorem m_proof_c53 (R : RM h G) (M : FM G (fSteps G) h) (I : IQ G) (B : IB G) {f l : Nat} (hf : f < 20) (hl : l < 10) (ht : gTh G f = true) (y : Int32) : fX4_proof_c53 1000 (nI f) y (nI l) 0 0 0 0 h = (if y = 0 then some (nI (fb_ct (fun o => gOv G o l && decide (gLv G f < gLv G o)) 20), h) else if y = 1 then some (nI (fb_ct (fun o => gOv G o l && decide (gLv G o = gLv G f)) 20), h) else some (nI (gRs G (fun o => gOv G o l && decide (gLv G o < gLv G f))), h)) := by
  unfold gRs
  refine for_up 20 (fun fu i => fX4_proof_c53 fu (nI f) y (nI l) (nI (fb_ct (fun o => gOv G o l && decide (gLv G f < gLv G o)) i)) (nI (fb_ct (fun o => gOv G o l && decide (gLv G o = gLv G f)) i)) (nI (fb_sm (fun o => if (gOv G o l && decide (gLv G o < gLv G f)) = true then gRate G o (gLv G o) else 0) i)) (nI i) h) _ ?_ ?_ (by omega)
  · intro fu i hi
    have hlf := gLv_le I B f
    have hli := gLv_le I B i
    have hL := lv_th M I hf ht
    have em : ∀ a : Nat, nI a + 0 = nI (a + 0) := fun a => by rw [show (0 : Int32) = nI 0 from rfl, nI_add]
    rw [fX4_proof_c53, if_pos (show nI i < (20 : Int32) from nI_lt (a := i) (b := 20) hi (by omega)), m_goesOver R I hi hl, e_bd, ic e_c0, nI_1, fb_ct_succ, fb_ct_succ, fb_sm_succ]
    by_cases c : gOv G i l = true
    · have hti := (I.ov hi c).1
      have hLi := lv_th M I hi hti
      have er : ∀ {k : Int32 → Option (Int32 × th_H)}, th_rd h 7 20 (nI i) k = k (nI (gLv G i)) := fun {k} => by rw [e_rd hi (by omega), hLi]
      have ef : ∀ {k : Int32 → Option (Int32 × th_H)}, th_rd h 7 20 (nI f) k = k (nI (gLv G f)) := fun {k} => by rw [e_rd hf (by omega), hL]
      have e1 := e_lt (show gLv G f < 2147483648 by omega) (show gLv G i < 2147483648 by omega)
      have e2 := e_eq (show gLv G i < 2147483648 by omega) (show gLv G f < 2147483648 by omega)
      have e3 := e_lt (show gLv G i < 2147483648 by omega) (show gLv G f < 2147483648 by omega)
      rw [if_neg (not_not_intro c)]
      rcases Nat.lt_trichotomy (gLv G f) (gLv G i) with z | z | z
      · have a1 : nI (gLv G f) < nI (gLv G i) := by rw [e1]; omega
        have a2 : ¬ nI (gLv G i) = nI (gLv G f) := by rw [e2]; omega
        have a3 : ¬ nI (gLv G i) < nI (gLv G f) := by rw [e3]; omega
        simp only [fX4_proof_c93, fX4_proof_c119, er, ef, if_pos a1, if_neg a2, if_neg a3, em, nI_1]
        rw [if_pos (show (gOv G i l && decide (gLv G f < gLv G i)) = true by rw [c, decide_eq_true z]; rfl), if_neg (show ¬ (gOv G i l && decide (gLv G i = gLv G f)) = true by rw [decide_eq_false (show ¬ gLv G i = gLv G f by omega), Bool.and_false]; decide), if_neg (show ¬ (gOv G i l && decide (gLv G i < gLv G f)) = true by rw [decide_eq_false (show ¬ gLv G i < gLv G f by omega), Bool.and_false]; decide)]
      · have a1 : ¬ nI (gLv G f) < nI (gLv G i) := by rw [e1]; omega
        have a2 : nI (gLv G i) = nI (gLv G f) := by rw [e2]; omega
        have a3 : ¬ nI (gLv G i) < nI (gLv G f) := by rw [e3]; omega
        simp only [fX4_proof_c93, fX4_proof_c119, er, ef, if_neg a1, if_pos a2, if_neg a3, em, nI_1]
        rw [if_neg (show ¬ (gOv G i l && decide (gLv G f < gLv G i)) = true by rw [decide_eq_false (show ¬ gLv G f < gLv G i by omega), Bool.and_false]; decide), if_pos (show (gOv G i l && decide (gLv G i = gLv G f)) = true by rw [c, decide_eq_true z.symm]; rfl), if_neg (show ¬ (gOv G i l && decide (gLv G i < gLv G f)) = true by rw [decide_eq_false (show ¬ gLv G i < gLv G f by omega), Bool.and_false]; decide)]
      · have a1 : ¬ nI (gLv G f) < nI (gLv G i) := by rw [e1]; omega
        have a2 : ¬ nI (gLv G i) = nI (gLv G f) := by rw [e2]; omega
        have a3 : nI (gLv G i) < nI (gLv G f) := by rw [e3]; omega
        simp only [fX4_proof_c93, fX4_proof_c119, er, ef, if_neg a1, if_neg a2, if_pos a3, em, nI_1, m_fairRate R M I B hi hti, e_bd, nI_add]
        rw [if_neg (show ¬ (gOv G i l && decide (gLv G f < gLv G i)) = true by rw [decide_eq_false (show ¬ gLv G f < gLv G i by omega), Bool.and_false]; decide), if_neg (show ¬ (gOv G i l && decide (gLv G i = gLv G f)) = true by rw [decide_eq_false (show ¬ gLv G i = gLv G f by omega), Bool.and_false]; decide), if_pos (show (gOv G i l && decide (gLv G i < gLv G f)) = true by rw [c, decide_eq_true z]; rfl)]
    · rw [if_pos c, if_neg (by simp [c]), if_neg (by simp [c]), if_neg (by simp [c])]
      rfl
  · intro fu
    rw [fX4_proof_c53, if_neg (by decide)]
end
theorem s_proof (x y : Int32) : Sp3 x (fX3_proof x y) (fX4_proof x y) := by
  intro n h m hn ⟨G, R⟩
  unfold fX3_proof fX4_proof
  rcases R.there x with ⟨a, b⟩ | ⟨f, hf, e, ht, a, b⟩
  · left
    rw [b, e_bd, if_pos rfl]
    exact ⟨a, _, rfl, up_same, G, (R.thx 1).inc⟩
  · right
    refine ⟨a, ?_⟩
    have R0 := R.th0
    obtain ⟨h2, q2, F, R1⟩ := R0.rise
    obtain ⟨m2, q3, M, Z, R2⟩ := R1.lay
    have I := R.iq
    have B := R.2.2.1.1.2.1
    obtain ⟨j, hj, hx, -⟩ := gLv_step I hf ht
    obtain ⟨c21, -⟩ : h2.1 21 f = nI (fWit G (fV G j) f) ∧ h2.1 22 f = nI j := F.2.2.2 j f hj hf hx
    obtain ⟨d8, -⟩ := M.2.2.2 j f hj hf hx
    have c20 : h2.1 20 f = nI (gLv G f) := F.2.1 f hf
    have hlf := gLv_le I B f
    have hw : fWit G (fV G j) f ≤ 10 := fa_first_le _ _
    generalize fWit G (fV G j) f = l at c21 d8 hw
    have fin : ∀ r : Int32, ∃ r' h3 m3, some (r, h2) = some (r', h3) ∧ some (r, m2) = some (r', m3) ∧ m3.1 0 0 = 0 ∧ Rel (n + 1) h3 m3 := fun r => ⟨_, _, _, rfl, rfl, by rw [Z.2.1 0 (by omega)]; exact up_same, G, R2.inc⟩
    rw [a, b, e_bd, e_bd, if_neg (show ¬ (1 : Int32) = 0 by decide), if_neg (show ¬ (1 : Int32) = 0 by decide), e, q2, q3, e_bd, e_bd, e_rd hf (by omega), c21, e_rd hf (by omega), d8, c_isLink, e_bd, ic e_c0, ic (e_eql (n := 10) (show l < 2147483648 by omega) (by decide)), nI_toInt (show l < 2147483648 by omega)]
    by_cases c : l = 10
    · rw [if_pos (by omega), if_pos c]
      exact fin _
    · have hl : l < 10 := by omega
      have c4 : h2.1 4 l = nI (mk (fun f => gOv G f l) 20) := R2.rp.2.1 l hl
      rw [if_neg (by omega), if_neg c, e_rd hl (by omega), c4, e_rd hf (by omega), c20, c_below F I B _ (by omega), e_bd, e_rd hf (by omega), c20, nI_1, c_below F I B _ (by omega), e_bd, not_bits, not_bits, bits_mk, bits_mk, c_ratesOf R2.rp F I B (fun f hf ho => (I.ov hf ((Bool.and_eq_true _ _).mp ho).1).1), e_bd, e_bd, e_bd, m_inl y 0 2 (by decide) (by decide), e_bd, ic e_c0, m_proof_c53 R2.2.1 M I B hf hl ht]
      have e0 : fb_ct (fun o => gOv G o l && !(gOv G o l && decide (gLv G o < gLv G f + 1))) 20 = fb_ct (fun o => gOv G o l && decide (gLv G f < gLv G o)) 20 := fb_ct_cong (fun o _ => by
        generalize gOv G o l = b
        generalize gLv G o = u
        generalize gLv G f = v
        cases b
        · simp
        · rw [Bool.eq_iff_iff]; simp; omega)
      have e1 : fb_ct (fun o => (gOv G o l && decide (gLv G o < gLv G f + 1)) && !(gOv G o l && decide (gLv G o < gLv G f))) 20 = fb_ct (fun o => gOv G o l && decide (gLv G o = gLv G f)) 20 := fb_ct_cong (fun o _ => by
        generalize gOv G o l = b
        generalize gLv G o = u
        generalize gLv G f = v
        cases b
        · simp
        · rw [Bool.eq_iff_iff]; simp; omega)
      rw [e0, e1]
      by_cases d : 0 ≤ y.toInt ∧ y.toInt ≤ 2
      · obtain ⟨i, hi, e⟩ := rng (x := y) (n := 3) (by omega) (by omega)
        subst e
        rw [if_neg (not_not_intro d)]
        obtain rfl | rfl | rfl : i = 0 ∨ i = 1 ∨ i = 2 := by omega
        · exact fin _
        · exact fin _
        · exact fin _
      · rw [if_pos d, if_neg (fun e => d (by rw [e]; decide)), if_neg (fun e => d (by rw [e]; decide)), if_neg (fun e => d (by rw [e]; decide))]
        exact fin _
/-! ===== off ===== -/
def SpL (fc fm : th_H → Option (Int64 × th_H)) : Prop := ∀ n h m, n < 512 → Rel n h m → ∃ r h2 m2, fc h = some (r, h2) ∧ fm m = some (r, m2) ∧ Rel (n + 1) h2 m2
def ad (a b : Nat) : Nat := if a < b then b - a else a - b
theorem ad_neg {a b : Nat} (h : a < b) (hb : b < 1073741824) : -(nI a - nI b) = nI (b - a) := by
  have e : nI a - nI b = -(nI (b - a)) := by
    rw [← pk_sub (show a ≤ b by omega)]
    rw [Int32.neg_sub]
  rw [e, Int32.neg_neg]
theorem ad_ab {a b : Nat} (ha : a < 1073741824) (hb : b < 1073741824) : th_ab (nI a - nI b) = nI (ad a b) := by
  unfold th_ab ad
  by_cases c : a < b
  · have h1 := pk_sneg hb c
    have h2 : ¬ (0 : Int32) ≤ nI a - nI b := fun z => by
      rw [fa_lt] at h1
      rw [fa_le] at z
      omega
    rw [if_neg h2, if_pos c, Int32.zero_sub, ad_neg c hb]
  · have h1 := pk_sub (show b ≤ a by omega)
    rw [h1, if_pos (by
      rw [fa_le, nI_toInt (by omega)]
      have : (0 : Int32).toInt = 0 := rfl
      omega), if_neg c]
def gFar (G : GR) (T : Nat → Nat) : Nat := fb_sm (fun f => if gTh G f = true then ad (T f) (gLv G f) else 0) 20
section
variable {q : Nat} {h : th_H} {G : GR}
theorem c_far (R : RP 2 h G) (F : FWt 19 G h) (I : IQ G) (B : IB G) {T : Nat → Nat} (hT : ∀ f, f < 20 → gTh G f = true → T f ≤ 1000000 ∧ h.1 (q + 11) f = nI (T f)) : fX3_farFromFair_c12 q 1000 0 0 h = some (lN (gFar G T), h) := by
  unfold gFar
  refine for_up 20 (fun fu i => fX3_farFromFair_c12 q fu (lN (fb_sm (fun f => if gTh G f = true then ad (T f) (gLv G f) else 0) i)) (nI i) h) _ ?_ ?_ (by omega)
  · intro fu i hi
    have hl := gLv_le I B i
    rw [fX3_farFromFair_c12, if_pos (show nI i < (20 : Int32) from nI_lt (a := i) (b := 20) hi (by omega)), c_has R hi, e_bd, ic e_c0, nI_1, fb_sm_succ]
    by_cases c : gTh G i = true
    · obtain ⟨t1, t2⟩ := hT i hi c
      have c20 : h.1 20 i = nI (gLv G i) := F.2.1 i hi
      have hd : ad (T i) (gLv G i) ≤ 1000000 := by unfold ad; split <;> omega
      rw [if_neg (not_not_intro c), if_pos c, e_rd hi (by omega), t2, e_rd hi (by omega), c20, ad_ab (by omega) (by omega), nI_l (by omega), lN_add]
    · rw [if_pos c, if_neg c]
      rfl
  · intro fu
    rw [fX3_farFromFair_c12, if_neg (by decide)]
theorem m_off_c13 (R : RM h G) (M : FM G (fSteps G) h) (I : II G) : fX4_off_c13 1000 0 0 h = some (lN (gFar G (gTold G)), h) := by
  unfold gFar
  refine for_up 20 (fun fu i => fX4_off_c13 fu (lN (fb_sm (fun f => if gTh G f = true then ad (gTold G f) (gLv G f) else 0) i)) (nI i) h) _ ?_ ?_ (by omega)
  · intro fu i hi
    have hl := gLv_le I.1.1 I.1.2.1 i
    rw [fX4_off_c13, if_pos (show nI i < (20 : Int32) from nI_lt (a := i) (b := 20) hi (by omega)), m_isFlow R I.1.1 hi, e_bd, ic e_c0, fb_sm_succ, m_at, e_bd, e_addl, m_row R (show 23 + 11 * i + 7 < 643 by omega), e_rd hi (by omega)]
    unfold fX4_off_c50
    rw [nI_1]
    by_cases c : gTh G i = true
    · have t1 := I.told hi c
      have hd : ad (gTold G i) (gLv G i) ≤ 1000000 := by unfold ad; split <;> omega
      rw [if_neg (not_not_intro c), if_pos c, lv_th M I.1.1 hi c]
      show (if nI (gTold G i) - nI (gLv G i) < 0 then _ else _) = _
      have e7 : G (23 + 11 * i + 7) = gTold G i := rfl
      rw [e7]
      by_cases z : gTold G i < gLv G i
      · rw [if_pos (pk_sneg (by omega) z), ad_neg z (by omega), nI_l (by omega), lN_add]
        unfold ad
        rw [if_pos z]
      · rw [pk_sub (show gLv G i ≤ gTold G i by omega), if_neg (nI_pos (by omega)), nI_l (by omega), lN_add]
        unfold ad
        rw [if_neg z]
    · rw [if_pos c, if_neg c, if_neg (by decide), show Int32.toInt64 0 = lN 0 from rfl, lN_add]
  · intro fu
    rw [fX4_off_c13, if_neg (by decide)]
end
theorem s_off : SpL fX3_off fX4_off := by
  intro n h m hn ⟨G, R⟩
  have R0 := R.th0
  obtain ⟨h2, q2, F, R1⟩ := R0.rise
  obtain ⟨m2, q3, M, Z, R2⟩ := R1.lay
  have I := R.iq
  have B := R.2.2.1.1.2.1
  unfold fX3_off fX4_off fX3_farFromFair
  rw [bd1, e_st, q2, q3, e_bd, e_bd, c_far (q := 1) (T := gTold G) R2.rp F I B (fun f hf ht => ⟨R.2.2.1.told hf ht, (R2.1.2.2.2.1 f hf ht).1⟩), m_off_c13 R2.2.1 M R.2.2.1]
  exact ⟨_, _, _, rfl, rfl, G, R2.inc⟩
