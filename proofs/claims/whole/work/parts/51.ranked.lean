/-! ===== ranked ===== -/
theorem if_t {α : Type} {a c : Prop} [Decidable c] [Decidable (a ∧ c)] (ha : a) {x y : α} : (if c then x else y) = if a ∧ c then x else y := by
  by_cases z : c
  · rw [if_pos z, if_pos ⟨ha, z⟩]
  · rw [if_neg z, if_neg (fun w => z w.2)]
theorem mk_and (a b : Nat → Bool) (n : Nat) : mk a n &&& mk b n = mk (fun i => a i && b i) n := by
  apply Nat.eq_of_testBit_eq
  intro i
  rw [Nat.testBit_and, mk_bit, mk_bit, mk_bit]
  cases decide (i < n) <;> simp
theorem mk_or (a b : Nat → Bool) (n : Nat) : mk a n ||| mk b n = mk (fun i => a i || b i) n := by
  apply Nat.eq_of_testBit_eq
  intro i
  rw [Nat.testBit_or, mk_bit, mk_bit, mk_bit]
  cases decide (i < n) <;> simp
theorem mk_low (a : Nat → Bool) (n f : Nat) : mk a n &&& (2 ^ f - 1) = mk (fun i => a i && decide (i < f)) n := by
  apply Nat.eq_of_testBit_eq
  intro i
  rw [Nat.testBit_and, mk_bit, mk_bit, Nat.testBit_two_pow_sub_one]
  cases decide (i < n) <;> simp
theorem bits_mk (p : Nat → Bool) (h : th_H) : fJ6_bitCount_0f7a4 (nI (mk p 20)) h = some (nI (fb_ct p 20), h) := by
  rw [c_bits (Nat.lt_of_lt_of_le (mk_lt _ 20) (Nat.le_refl _)), mk_ct]
def gRk (G : GR) (f : Nat) : Nat := fb_ct (fun o => gTh G o && (decide (gLv G o < gLv G f) || (decide (gLv G o = gLv G f) && decide (o < f)))) 20
section
variable {w p : Nat} {h : th_H} {G : GR} {P : Nat → Bool}
theorem c_below (F : FWt w G h) (I : IQ G) (B : IB G) (P : Nat → Bool) {b : Nat} (hb : b < 2147483648) : fX2_below w p (nI (mk P 20)) (nI b) h = some (nI (mk (fun f => P f && decide (gLv G f < b)) 20), h) := by
  unfold fX2_below
  refine for_up 20 (fun fu i => fX2_below_c5 w p fu (nI (mk P 20)) (nI b) (nI (mk (fun f => P f && decide (gLv G f < b)) i)) (nI i) h) _ ?_ ?_ (by omega)
  · intro fu i hi
    have hw : h.1 (w + 1) i = nI (gLv G i) := F.2.1 i hi
    have hl := gLv_le I B i
    have em : mk (fun f => P f && decide (gLv G f < b)) (i + 1) = mk (fun f => P f && decide (gLv G f < b)) i ||| (if (P i && decide (gLv G i < b)) = true then 2 ^ i else 0) := rfl
    rw [fX2_below_c5, if_pos (show nI i < (20 : Int32) from nI_lt (a := i) (b := 20) hi (by omega)), e_bit (mk20 _) (by omega), ic e_c0, mk20_bit _ hi, nI_1, em]
    by_cases c : P i = true
    · rw [if_neg (not_not_intro c), e_rd hi (by omega), hw, ic (e_lt (show gLv G i < 2147483648 by omega) hb)]
      by_cases d : gLv G i < b
      · rw [if_pos d, if_pos (by simp [c, d]), e_shl (by omega), fa_or]
      · rw [if_neg d, if_neg (by simp [d]), Nat.or_zero]
    · rw [if_pos c, if_neg (by simp [c]), Nat.or_zero]
  · intro fu
    rw [fX2_below_c5, if_neg (by decide)]
theorem c_rankOf (R : RP p h G) (F : FWt w G h) (I : IQ G) (B : IB G) {f : Nat} (hf : f < 20) : fX2_rankOf w p (nI f) h = some (nI (gRk G f), h) := by
  have hw : h.1 (w + 1) f = nI (gLv G f) := F.2.1 f hf
  have hl := gLv_le I B f
  unfold fX2_rankOf
  rw [e_rd hf (by omega), hw, R.2.2.2.2, c_below F I B (gTh G) (by omega), e_bd, e_rd hf (by omega), hw, R.2.2.2.2, nI_1, c_below F I B (gTh G) (by omega), e_bd, e_shl (by omega), e_subl (show 1 ≤ 2 ^ f from Nat.one_le_two_pow), fa_and, mk_low, fa_or, mk_or, bits_mk, e_bd]
  congr 3
  refine fb_ct_cong (fun o ho => ?_)
  cases gTh G o
  · simp
  · rw [Bool.eq_iff_iff]
    simp
    omega
theorem lv_th (M : FM G (fSteps G) h) (I : IQ G) {f : Nat} (hf : f < 20) (ht : gTh G f = true) : h.1 7 f = nI (gLv G f) := by
  obtain ⟨t, et⟩ := fV_there I hf ht
  have := M.2.1 f hf
  rw [et] at this
  unfold gLv
  rw [et]
  exact this
theorem m_ranked_c22 (R : RM h G) (M : FM G (fSteps G) h) (I : IQ G) (B : IB G) (K : Int32 → Int32 → th_H → Option (Int32 × th_H)) (x : Int32) {f : Nat} (hf : f < 20) : fX4_ranked_c22 K 1000 x (nI f) 0 0 h = if gTh G f = true ∧ nI (gRk G f) = x then some (nI f, h) else K x (nI (f + 1)) h := by
  by_cases ht : gTh G f = true
  · have hl := gLv_le I B f
    have hL := lv_th M I hf ht
    unfold gRk
    refine for_up 20 (fun fu i => fX4_ranked_c22 K fu x (nI f) (nI (fb_ct (fun o => gTh G o && (decide (gLv G o < gLv G f) || (decide (gLv G o = gLv G f) && decide (o < f)))) i)) (nI i) h) _ ?_ ?_ (by omega)
    · intro fu i hi
      have hli := gLv_le I B i
      rw [fX4_ranked_c22, if_pos (show nI i < (20 : Int32) from nI_lt (a := i) (b := 20) hi (by omega)), m_isFlow R I hf, e_bd, if_pos ht, if_neg (by decide), m_isFlow R I hi, e_bd, ic e_c0, fb_ct_succ, nI_1, e_rd hi (by omega), e_rd hf (by omega), e_rd hi (by omega), e_rd hf (by omega), hL, show (0 : Int32) = nI 0 from rfl, show (1 : Int32) = nI 1 from rfl, nI_add, nI_add, ic (e_lt (show i < 2147483648 by omega) (show f < 2147483648 by omega))]
      by_cases c : gTh G i = true
      · rw [if_neg (not_not_intro c), lv_th M I hi c, ic (e_lt (show gLv G i < 2147483648 by omega) (show gLv G f < 2147483648 by omega)), ic (e_eq (show gLv G i < 2147483648 by omega) (show gLv G f < 2147483648 by omega))]
        by_cases d : gLv G i < gLv G f
        · rw [if_pos d, if_pos (by simp [c, d])]
        · rw [if_neg d]
          by_cases e : gLv G i = gLv G f
          · rw [if_pos e]
            by_cases g : i < f
            · rw [if_pos g, if_pos (by simp [c, e, g])]
            · rw [if_neg g, if_neg (by simp [d, g])]
          · rw [if_neg e, if_neg (by simp [d, e])]
      · rw [if_pos c, if_neg (by simp [c])]
    · intro fu
      rw [fX4_ranked_c22, if_neg (by decide)]
      unfold fX4_ranked_c98
      rw [m_isFlow R I hf, e_bd, if_pos ht, if_neg (by decide), nI_1]
      exact if_t ht
  · rw [if_neg (fun z => ht z.1), show (1000 : Nat) = 999 + 1 from rfl, fX4_ranked_c22, if_pos (by decide), m_isFlow R I hf, e_bd, if_neg ht, if_pos rfl]
    unfold fX4_ranked_c98
    rw [m_isFlow R I hf, e_bd, if_neg ht, if_pos rfl, nI_1]
end
theorem s_ranked (x : Int32) : Sp2 (fX3_ranked x) (fX4_ranked x) := by
  intro n h m hn ⟨G, R⟩
  have R0 := R.th0
  obtain ⟨h2, q2, F, R1⟩ := R0.rise
  obtain ⟨m2, q3, M, Z, R2⟩ := R1.lay
  have I := R.iq
  have B := R.2.2.1.1.2.1
  unfold fX3_ranked fX4_ranked
  rw [e_st, q2, q3, e_bd, e_bd]
  have key : ∀ d i fu, i + d = 20 → d < fu → ∃ r, fX3_ranked_c9 fu x (nI i) h2 = some (r, h2) ∧ fX4_ranked_c11 fu x (nI i) m2 = some (r, m2) := by
    intro d
    induction d with
    | zero =>
      intro i fu hi hfu
      obtain ⟨fu, rfl⟩ : ∃ z, fu = z + 1 := ⟨fu - 1, by omega⟩
      obtain rfl : i = 20 := by omega
      rw [fX3_ranked_c9, fX4_ranked_c11, if_neg (by decide), if_neg (by decide)]
      exact ⟨_, rfl, rfl⟩
    | succ d ih =>
      intro i fu hi hfu
      obtain ⟨fu, rfl⟩ : ∃ z, fu = z + 1 := ⟨fu - 1, by omega⟩
      have hi2 : i < 20 := by omega
      rw [fX3_ranked_c9, fX4_ranked_c11, if_pos (show nI i < (20 : Int32) from nI_lt (a := i) (b := 20) hi2 (by omega)), if_pos (show nI i < (20 : Int32) from nI_lt (a := i) (b := 20) hi2 (by omega)), m_ranked_c22 R2.2.1 M I B _ x hi2, c_has R2.rp hi2, e_bd, ic e_c0, c_rankOf R2.rp F I B hi2, e_bd, nI_1]
      by_cases c : gTh G i = true
      · rw [if_neg (not_not_intro c)]
        by_cases e : nI (gRk G i) = x
        · rw [if_pos e, if_pos ⟨c, e⟩]
          exact ⟨_, rfl, rfl⟩
        · rw [if_neg e, if_neg (fun z => e z.2)]
          exact ih (i + 1) fu (by omega) (by omega)
      · rw [if_pos c, if_neg (fun z => c z.1)]
        exact ih (i + 1) fu (by omega) (by omega)
  obtain ⟨r, a, b⟩ := key 20 0 1000 (by omega) (by omega)
  exact ⟨r, h2, m2, a, b, G, R2.inc⟩
/-! ===== fullest ===== -/
def gLf (G : GR) (l : Nat) : Int32 := nI (gCap G l) - nI (gRs G (fun f => gOv G f l))
def gFl (G : GR) (l : Nat) : Nat := fb_ct (fun o => gUse G o && (decide (gLf G o < gLf G l) || (decide (gLf G o = gLf G l) && decide (o < l)))) 10
section
variable {w p : Nat} {h : th_H} {G : GR} {P : Nat → Bool}
theorem c_leftOf (R : RP p h G) (F : FWt w G h) (I : IQ G) (B : IB G) {l : Nat} (hl : l < 10) : fX2_leftOf w p (nI l) h = some (gLf G l, h) := by
  unfold fX2_leftOf gLf
  rw [e_rd hl (by omega), R.1 l hl, e_rd hl (by omega), R.2.1 l hl, c_ratesOf R F I B (fun f hf ho => (I.ov hf ho).1)]
  rfl
theorem m_leftOf (R : RM h G) (M : FM G (fSteps G) h) (I : IQ G) (B : IB G) {l : Nat} (hl : l < 10) : fX4_leftOf (nI l) h = some (gLf G l, h) := by
  unfold fX4_leftOf gLf
  rw [e_ladd, m_row R (by omega), m_usedOf R M I B hl]
  rfl
theorem c_fullnessOf (R : RP p h G) (F : FWt w G h) (I : IQ G) (B : IB G) {l : Nat} (hl : l < 10) : fX2_fullnessOf w p (nI l) h = some (nI (gFl G l), h) := by
  unfold fX2_fullnessOf gFl
  rw [c_leftOf R F I B hl, e_bd]
  refine for_up 10 (fun fu i => fX2_fullnessOf_c11 w p fu (nI l) (gLf G l) (nI (fb_ct (fun o => gUse G o && (decide (gLf G o < gLf G l) || (decide (gLf G o = gLf G l) && decide (o < l)))) i)) (nI i) h) _ ?_ ?_ (by omega)
  · intro fu i hi
    rw [fX2_fullnessOf_c11, if_pos (show nI i < (10 : Int32) from nI_lt (a := i) (b := 10) hi (by omega)), c_crowd R hi, ic (e_eql (n := 0) (mk20 _) (by decide)), ic (crowd0 i), c_leftOf R F I B hi, e_bd, fb_ct_succ, nI_1, show (0 : Int32) = nI 0 from rfl, show (1 : Int32) = nI 1 from rfl, nI_add, nI_add, ic (e_lt (show i < 2147483648 by omega) (show l < 2147483648 by omega))]
    by_cases c : gUse G i = true
    · rw [if_neg (not_not_intro c)]
      by_cases d : gLf G i < gLf G l
      · rw [if_pos d, if_pos (by simp [c, d])]
      · rw [if_neg d]
        by_cases e : gLf G i = gLf G l
        · rw [if_pos e]
          by_cases g : i < l
          · rw [if_pos g, if_pos (by simp [c, e, g])]
          · rw [if_neg g, if_neg (by simp [d, g])]
        · rw [if_neg e, if_neg (by simp [d, e])]
    · rw [if_pos c, if_neg (by simp [c])]
      rfl
  · intro fu
    rw [fX2_fullnessOf_c11, if_neg (by decide)]
theorem m_fullest_c22 (R : RM h G) (M : FM G (fSteps G) h) (I : IQ G) (B : IB G) (K : Int32 → Int32 → th_H → Option (Int32 × th_H)) (x : Int32) {l : Nat} (hl : l < 10) : fX4_fullest_c22 K 1000 x (nI l) 0 0 h = if gUse G l = true ∧ nI (gFl G l) = x then some (nI l, h) else K x (nI (l + 1)) h := by
  by_cases ht : gUse G l = true
  · unfold gFl
    refine for_up 10 (fun fu i => fX4_fullest_c22 K fu x (nI l) (nI (fb_ct (fun o => gUse G o && (decide (gLf G o < gLf G l) || (decide (gLf G o = gLf G l) && decide (o < l)))) i)) (nI i) h) _ ?_ ?_ (by omega)
    · intro fu i hi
      rw [fX4_fullest_c22, if_pos (show nI i < (10 : Int32) from nI_lt (a := i) (b := 10) hi (by omega)), m_hasFlows R I hl, e_bd, ht, if_neg (by decide), m_hasFlows R I hi, e_bd, ic (bI_0 _), fb_ct_succ, nI_1, m_leftOf R M I B hi, e_bd, m_leftOf R M I B hl, e_bd, m_leftOf R M I B hi, e_bd, m_leftOf R M I B hl, e_bd, show (0 : Int32) = nI 0 from rfl, show (1 : Int32) = nI 1 from rfl, nI_add, nI_add, ic (e_lt (show i < 2147483648 by omega) (show l < 2147483648 by omega))]
      by_cases c : gUse G i = true
      · rw [if_neg (by simp [c])]
        by_cases d : gLf G i < gLf G l
        · rw [if_pos d, if_pos (by simp [c, d])]
        · rw [if_neg d]
          by_cases e : gLf G i = gLf G l
          · rw [if_pos e]
            by_cases g : i < l
            · rw [if_pos g, if_pos (by simp [c, e, g])]
            · rw [if_neg g, if_neg (by simp [d, g])]
          · rw [if_neg e, if_neg (by simp [d, e])]
      · rw [if_pos (by simpa using c), if_neg (by simp [c])]
    · intro fu
      rw [fX4_fullest_c22, if_neg (by decide)]
      unfold fX4_fullest_c94
      rw [m_hasFlows R I hl, e_bd, ht, if_neg (by decide), nI_1]
      exact if_t rfl
  · have hf : gUse G l = false := by simpa using ht
    rw [if_neg (fun z => ht z.1), show (1000 : Nat) = 999 + 1 from rfl, fX4_fullest_c22, if_pos (by decide), m_hasFlows R I hl, e_bd, hf, if_pos bI_f]
    unfold fX4_fullest_c94
    rw [m_hasFlows R I hl, e_bd, hf, if_pos bI_f, nI_1]
end
theorem s_fullest (x : Int32) : Sp2 (fX3_fullest x) (fX4_fullest x) := by
  intro n h m hn ⟨G, R⟩
  have R0 := R.th0
  obtain ⟨h2, q2, F, R1⟩ := R0.rise
  obtain ⟨m2, q3, M, Z, R2⟩ := R1.lay
  have I := R.iq
  have B := R.2.2.1.1.2.1
  unfold fX3_fullest fX4_fullest
  rw [e_st, q2, q3, e_bd, e_bd]
  have key : ∀ d i fu, i + d = 10 → d < fu → ∃ r, fX3_fullest_c9 fu x (nI i) h2 = some (r, h2) ∧ fX4_fullest_c11 fu x (nI i) m2 = some (r, m2) := by
    intro d
    induction d with
    | zero =>
      intro i fu hi hfu
      obtain ⟨fu, rfl⟩ : ∃ z, fu = z + 1 := ⟨fu - 1, by omega⟩
      obtain rfl : i = 10 := by omega
      rw [fX3_fullest_c9, fX4_fullest_c11, if_neg (by decide), if_neg (by decide)]
      exact ⟨_, rfl, rfl⟩
    | succ d ih =>
      intro i fu hi hfu
      obtain ⟨fu, rfl⟩ : ∃ z, fu = z + 1 := ⟨fu - 1, by omega⟩
      have hi2 : i < 10 := by omega
      have v4 : h2.1 4 i = nI (mk (fun f => gOv G f i) 20) := R2.rp.2.1 i hi2
      rw [fX3_fullest_c9, fX4_fullest_c11, if_pos (show nI i < (10 : Int32) from nI_lt (a := i) (b := 10) hi2 (by omega)), if_pos (show nI i < (10 : Int32) from nI_lt (a := i) (b := 10) hi2 (by omega)), m_fullest_c22 R2.2.1 M I B _ x hi2, e_rd hi2 (by omega), v4, ic (e_eql (n := 0) (mk20 _) (by decide)), ic (crowd0 i), c_fullnessOf R2.rp F I B hi2, e_bd, nI_1]
      by_cases c : gUse G i = true
      · rw [if_neg (not_not_intro c)]
        by_cases e : nI (gFl G i) = x
        · rw [if_pos e, if_pos ⟨c, e⟩]
          exact ⟨_, rfl, rfl⟩
        · rw [if_neg e, if_neg (fun z => e z.2)]
          exact ih (i + 1) fu (by omega) (by omega)
      · rw [if_pos c, if_neg (fun z => c z.1)]
        exact ih (i + 1) fu (by omega) (by omega)
  obtain ⟨r, a, b⟩ := key 10 0 1000 (by omega) (by omega)
  exact ⟨r, h2, m2, a, b, G, R2.inc⟩
