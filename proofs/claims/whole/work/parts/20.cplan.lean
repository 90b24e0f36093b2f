/-! ===== the class's plan, and what it answers ===== -/
def RP (p : Nat) (h : th_H) (G : GR) : Prop :=
  (∀ l, l < 10 → h.1 (p + 1) l = nI (gCap G l)) ∧ (∀ l, l < 10 → h.1 (p + 2) l = nI (mk (fun f => gOv G f l) 20)) ∧
  (∀ f, f < 20 → h.1 (p + 4) f = nI (if gTh G f = true then gPath G f else 0)) ∧
  (∀ f, f < 20 → gTh G f = true → h.1 (p + 5) f = nI (gWt G f) ∧ h.1 (p + 6) f = nI (gLeast G f) ∧ h.1 (p + 7) f = nI (gWant G f)) ∧
  h.1 p 7 = nI (mk (gTh G) 20)
theorem RP.off {p : Nat} {h h2 : th_H} {G : GR} (R : RP p h G) (e : ∀ c, p < c → c < p + 8 → c ≠ p + 3 → h2.1 c = h.1 c) (e7 : h2.1 p 7 = h.1 p 7) : RP p h2 G := by
  obtain ⟨a, b, c, d, f⟩ := R
  refine ⟨fun l hl => ?_, fun l hl => ?_, fun l hl => ?_, fun l hl ht => ?_, e7.trans f⟩
  · rw [e _ (by omega) (by omega) (by omega)]; exact a l hl
  · rw [e _ (by omega) (by omega) (by omega)]; exact b l hl
  · rw [e _ (by omega) (by omega) (by omega)]; exact c l hl
  · rw [e _ (by omega) (by omega) (by omega), e _ (by omega) (by omega) (by omega), e _ (by omega) (by omega) (by omega)]; exact d l hl ht
theorem mk20 (q : Nat → Bool) : mk q 20 < 2147483648 := Nat.lt_trans (mk_lt q 20) (by decide)
theorem mk20_bit (q : Nat → Bool) {i : Nat} (hi : i < 20) : (mk q 20).testBit i = q i := by rw [mk_bit]; simp [hi]
section
variable {p : Nat} {h : th_H} {G : GR}
theorem c_has (R : RP p h G) {f : Nat} (hf : f < 20) : fX0_has p (nI f) h = some (if gTh G f = true then 1 else 0, h) := by
  unfold fX0_has
  rw [if_neg (nI_pos (by omega)), if_pos (show nI f < (20 : Int32) from nI_lt (a := f) (b := 20) hf (by omega)), R.2.2.2.2, e_bit (mk20 _) (by omega), ic e_c0, mk20_bit _ hf]
  by_cases c : gTh G f = true
  · rw [if_neg (not_not_intro c), if_pos c]
  · rw [if_pos c, if_neg c]
theorem c_hasNot {x : Int32} (hx : ¬ (0 ≤ x.toInt ∧ x.toInt ≤ 19)) : fX0_has p x h = some (0, h) := by
  unfold fX0_has
  by_cases c : x < 0
  · rw [if_pos c]
  · rw [if_neg c, if_neg]
    rw [fa_lt] at c ⊢
    have e1 : (0 : Int32).toInt = 0 := rfl
    have e2 : (20 : Int32).toInt = 20 := rfl
    omega
theorem c_path (I : IQ G) {f : Nat} (hf : f < 20) : (if gTh G f = true then gPath G f else 0) < 1024 := by
  by_cases c : gTh G f = true
  · rw [if_pos c]; exact ((I.2 f hf).2 c).2.1
  · rw [if_neg c]; omega
theorem c_path_bit {f l : Nat} : (if gTh G f = true then gPath G f else 0).testBit l = gOv G f l := by
  unfold gOv
  by_cases c : gTh G f = true
  · rw [if_pos c, c, Bool.true_and]
  · have : gTh G f = false := by simpa using c
    rw [if_neg c, this, Bool.false_and, Nat.zero_testBit]
theorem c_goesOver (R : RP p h G) (I : IQ G) {f l : Nat} (hf : f < 20) (hl : l < 10) : fX0_goesOver p (nI f) (nI l) h = some (if gOv G f l = true then 1 else 0, h) := by
  unfold fX0_goesOver
  have := c_path I hf
  rw [e_rd hf (by omega), R.2.2.1 f hf, e_bit (by omega) (by omega), ic e_c0, c_path_bit]
  by_cases c : gOv G f l = true
  · rw [if_neg (not_not_intro c), if_pos c]
  · rw [if_pos c, if_neg c]
theorem c_crowd (R : RP p h G) {α : Type} {l : Nat} {k : Int32 → Option α} (hl : l < 10) : th_rd h (p + 2) 10 (nI l) k = k (nI (mk (fun f => gOv G f l) 20)) := by
  rw [e_rd hl (by omega), R.2.1 l hl]
theorem c_boundOf (R : RP p h G) (I : IQ G) {l : Nat} (hl : l < 10) : fX0_boundOf p (nI l) h = some (nI (gBnd G l), h) := by
  unfold fX0_boundOf gBnd
  refine for_up 20 (fun fu i => fX0_boundOf_c4 p fu (nI l) (nI (fb_sm (fun f => if gOv G f l = true then gLeast G f else 0) i)) (nI i) h) _ ?_ ?_ (by omega)
  · intro fu i hi
    rw [fX0_boundOf_c4, if_pos (show nI i < (20 : Int32) from nI_lt (a := i) (b := 20) hi (by omega)), c_crowd R hl, e_bit (mk20 _) (by omega), ic e_c0, mk20_bit _ hi, fb_sm_succ, nI_1]
    by_cases c : gOv G i l = true
    · rw [if_neg (not_not_intro c), if_pos c, e_rd hi (by omega), (R.2.2.2.1 i hi (I.ov hi c).1).2.1, nI_add]
    · rw [if_pos c, if_neg c]
      rfl
  · intro fu
    rw [fX0_boundOf_c4, if_neg (by decide)]
theorem c_byWeight (R : RP p h G) (I : IQ G) {f a : Nat} (hf : f < 20) (ht : gTh G f = true) (ha : a < 2147483648) : fX0_byWeight p (nI f) (nI a) h = some (nI (a / gWt G f), h) := by
  obtain ⟨-, -, w1, w2, -, -⟩ := (I.2 f hf).2 ht
  unfold fX0_byWeight
  rw [e_rd hf (by omega), (R.2.2.2.1 f hf ht).1, if_neg (show ¬ nI (gWt G f) < (1 : Int32) from nI_nlt (b := 1) w1 (by omega)), e_rd hf (by omega), (R.2.2.2.1 f hf ht).1, e_dv w1 (by omega), pk_div ha w1 (by omega)]
theorem c_ownOf (R : RP p h G) (I : IQ G) {f : Nat} (hf : f < 20) (ht : gTh G f = true) : fX0_ownOf p (nI f) h = some (nI (gOwn G f), h) := by
  obtain ⟨-, -, w1, w2, w3, w4⟩ := (I.2 f hf).2 ht
  unfold fX0_ownOf
  rw [e_rd hf (by omega), (R.2.2.2.1 f hf ht).2.2, c_byWeight R I hf ht (by omega), e_bd]
  rfl
theorem e_mx {a b : Nat} (ha : a < 2147483648) (hb : b < 2147483648) : th_mx (nI a) (nI b) = nI (max a b) := by
  unfold th_mx
  rw [ic (e_lt ha hb)]
  by_cases c : a < b
  · rw [if_pos c, Nat.max_eq_right (by omega)]
  · rw [if_neg c, Nat.max_eq_left (by omega)]
theorem e_mn {a b : Nat} (ha : a < 2147483648) (hb : b < 2147483648) : th_mn (nI a) (nI b) = nI (min a b) := by
  unfold th_mn
  rw [ic (e_lt hb ha)]
  by_cases c : b < a
  · rw [if_pos c, Nat.min_eq_right (by omega)]
  · rw [if_neg c, Nat.min_eq_left (by omega)]
theorem c_rateBy (R : RP p h G) (I : IQ G) {f t : Nat} (hf : f < 20) (ht : gTh G f = true) (h1 : t ≤ 1000001) : fX0_rateBy p (nI f) (nI t) h = some (nI (gRate G f t), h) := by
  obtain ⟨-, -, w1, w2, w3, w4⟩ := (I.2 f hf).2 ht
  have hm : gWt G f * t ≤ 9 * 1000001 := Nat.mul_le_mul w2 h1
  unfold fX0_rateBy
  rw [e_rd hf (by omega), (R.2.2.2.1 f hf ht).1, e_rd hf (by omega), (R.2.2.2.1 f hf ht).2.1, pk_mul, e_mx (by omega) (by omega)]
  rfl
def gFree (G : GR) : Nat := fa_first (fun f => !gTh G f) 20
theorem c_freeNumber (R : RP p h G) : fX0_freeNumber p h = some (if gFree G < 20 then nI (gFree G) else -1, h) := by
  unfold fX0_freeNumber gFree
  rw [show fX0_freeNumber_c2 p 1000 0 h = fX0_freeNumber_c2 p 1000 (nI 0) h from rfl, for_find 20 (fun f => !gTh G f) (fun fu i => fX0_freeNumber_c2 p fu (nI i) h) (fun i => some (nI i, h)) (some (-1, h)) ?_ ?_ ?_ (show 20 < 1000 by omega)]
  · split <;> rfl
  · intro fu i hi c
    have c2 : gTh G i = true := by simpa using c
    rw [fX0_freeNumber_c2, if_pos (show nI i < (20 : Int32) from nI_lt (a := i) (b := 20) hi (by omega)), c_has R hi, e_bd, if_pos c2, if_neg (by decide), nI_1]
  · intro fu i hi c
    have c2 : ¬ gTh G i = true := by simpa using c
    rw [fX0_freeNumber_c2, if_pos (show nI i < (20 : Int32) from nI_lt (a := i) (b := 20) hi (by omega)), c_has R hi, e_bd, if_neg c2, if_pos rfl]
  · intro fu
    rw [fX0_freeNumber_c2, if_neg (by decide)]
/-- names stand beside the plan -/
def RNm (p : Nat) (h : th_H) (G : GR) : Prop := ∀ f, f < 20 → gTh G f = true → h.1 (p + 3) f = nI (gName G f)
def gNamed (G : GR) (n : Int32) : Nat := fa_first (fun f => gTh G f && decide (nI (gName G f) = n)) 20
theorem c_flowNamed (R : RP p h G) (N : RNm p h G) (n : Int32) : fX0_flowNamed p n h = some (if gNamed G n < 20 then nI (gNamed G n) else -1, h) := by
  unfold fX0_flowNamed gNamed
  rw [show fX0_flowNamed_c2 p 1000 n 0 h = fX0_flowNamed_c2 p 1000 n (nI 0) h from rfl, for_find 20 (fun f => gTh G f && decide (nI (gName G f) = n)) (fun fu i => fX0_flowNamed_c2 p fu n (nI i) h) (fun i => some (nI i, h)) (some (-1, h)) ?_ ?_ ?_ (show 20 < 1000 by omega)]
  · split <;> rfl
  · intro fu i hi c
    rw [fX0_flowNamed_c2, if_pos (show nI i < (20 : Int32) from nI_lt (a := i) (b := 20) hi (by omega)), c_has R hi, e_bd, ic e_c0, nI_1]
    by_cases c2 : gTh G i = true
    · have c3 : ¬ nI (gName G i) = n := by simpa [c2] using c
      rw [if_neg (not_not_intro c2), e_rd hi (by omega), N i hi c2, if_neg c3]
    · rw [if_pos c2]
  · intro fu i hi c
    have c2 : gTh G i = true ∧ nI (gName G i) = n := by simpa using c
    rw [fX0_flowNamed_c2, if_pos (show nI i < (20 : Int32) from nI_lt (a := i) (b := 20) hi (by omega)), c_has R hi, e_bd, ic e_c0, if_neg (not_not_intro c2.1), e_rd hi (by omega), N i hi c2.1, if_pos c2.2]
  · intro fu
    rw [fX0_flowNamed_c2, if_neg (by decide)]
theorem c_hasRoom (R : RP p h G) (I : IQ G) {m : Nat} (hm : m < 1024) (y : Int32) : fX0_hasRoom p (nI m) y h = some (bI (al (fun l => !m.testBit l || !decide (nI (gCap G l) < nI (gBnd G l) + y)) 10), h) := by
  unfold fX0_hasRoom
  have e : al (fun l => !m.testBit l || !decide (nI (gCap G l) < nI (gBnd G l) + y)) 10 = !decide (fa_first (fun l => m.testBit l && decide (nI (gCap G l) < nI (gBnd G l) + y)) 10 < 10) := by
    have hl := fa_first_le (fun l => m.testBit l && decide (nI (gCap G l) < nI (gBnd G l) + y)) 10
    by_cases c : fa_first (fun l => m.testBit l && decide (nI (gCap G l) < nI (gBnd G l) + y)) 10 < 10
    · have h1 := fa_first_yes _ 10 c
      rw [decide_eq_true c]
      cases q : al (fun l => !m.testBit l || !decide (nI (gCap G l) < nI (gBnd G l) + y)) 10
      · rfl
      · have h2 := al_iff.mp q _ c
        generalize fa_first (fun l => m.testBit l && decide (nI (gCap G l) < nI (gBnd G l) + y)) 10 = z at h1 h2
        have h3 : m.testBit z = true ∧ nI (gCap G z) < nI (gBnd G z) + y := by simpa using h1
        simp [h3.1, h3.2] at h2
    · rw [decide_eq_false c]
      refine al_iff.mpr (fun l hl2 => ?_)
      have h1 := fa_first_no (fun l => m.testBit l && decide (nI (gCap G l) < nI (gBnd G l) + y)) 10 l (by omega)
      have h2 : (m.testBit l && decide (nI (gCap G l) < nI (gBnd G l) + y)) = false := h1
      rw [← Bool.not_and, h2]
      rfl
  rw [show fX0_hasRoom_c2 p 1000 (nI m) y 0 h = fX0_hasRoom_c2 p 1000 (nI m) y (nI 0) h from rfl, for_find 10 (fun l => m.testBit l && decide (nI (gCap G l) < nI (gBnd G l) + y)) (fun fu i => fX0_hasRoom_c2 p fu (nI m) y (nI i) h) (fun _ => some (0, h)) (some (1, h)) ?_ ?_ ?_ (show 10 < 1000 by omega), e]
  · by_cases c : fa_first (fun l => m.testBit l && decide (nI (gCap G l) < nI (gBnd G l) + y)) 10 < 10
    · rw [if_pos c, decide_eq_true c]; rfl
    · rw [if_neg c, decide_eq_false c]; rfl
  · intro fu i hi c
    rw [fX0_hasRoom_c2, if_pos (show nI i < (10 : Int32) from nI_lt (a := i) (b := 10) hi (by omega)), e_bit (by omega) (by omega), ic e_c0, nI_1]
    by_cases c2 : m.testBit i = true
    · have c3 : ¬ nI (gCap G i) < nI (gBnd G i) + y := by simpa [c2] using c
      rw [if_neg (not_not_intro c2), c_boundOf R I hi, e_bd, e_rd hi (by omega), R.1 i hi, if_neg c3]
    · rw [if_pos c2]
  · intro fu i hi c
    have c2 : m.testBit i = true ∧ nI (gCap G i) < nI (gBnd G i) + y := by simpa using c
    rw [fX0_hasRoom_c2, if_pos (show nI i < (10 : Int32) from nI_lt (a := i) (b := 10) hi (by omega)), e_bit (by omega) (by omega), ic e_c0, if_neg (not_not_intro c2.1), c_boundOf R I hi, e_bd, e_rd hi (by omega), R.1 i hi, if_pos c2.2]
  · intro fu
    rw [fX0_hasRoom_c2, if_neg (by decide)]
end
