/-! ===== the greatest level, piece by piece ===== -/
section
variable {p : Nat} {h : th_H} {G : GR}
/-- all rates, each by the less of t and its limit -/
def lS (G : GR) (lim : Nat → Nat) (l t : Nat) : Nat := fb_sm (fun f => if gOv G f l = true then gRate G f (min t (lim f)) else 0) 20
def lSt (G : GR) (f : Nat) : Nat := gLeast G f / gWt G f
def pS (G : GR) (lim : Nat → Nat) (l t : Nat) (n : Nat) : Nat := fb_sm (fun f => if gOv G f l = true then (if t < lim f then (if t < lSt G f then gLeast G f else gWt G f * t) else gRate G f (lim f)) else 0) n
def pL (G : GR) (lim : Nat → Nat) (l t : Nat) (n : Nat) : Nat := fb_sm (fun f => if gOv G f l = true ∧ t < lim f ∧ ¬ t < lSt G f then gWt G f else 0) n
def pN (G : GR) (lim : Nat → Nat) (l t : Nat) : Nat → Nat
  | 0 => 1000000
  | n + 1 => if gOv G n l = true then (if t < lim n then (if t < lSt G n then min (pN G lim l t n) (min (lSt G n) (lim n)) else min (pN G lim l t n) (lim n)) else pN G lim l t n) else pN G lim l t n
variable {lim : Nat → Nat} {l t : Nat}
theorem lS_mono {a b : Nat} (hab : a ≤ b) : lS G lim l a ≤ lS G lim l b := by
  refine fb_sm_le (fun f _ => ?_)
  by_cases c : gOv G f l = true
  · simp only [if_pos c]; exact gRate_mono (by omega)
  · simp only [if_neg c]; exact Nat.le_refl _
theorem pN_le : ∀ n, pN G lim l t n ≤ 1000000 ∧ ∀ f, f < n → gOv G f l = true → t < lim f → pN G lim l t n ≤ lim f ∧ (t < lSt G f → pN G lim l t n ≤ lSt G f) := by
  intro n
  induction n with
  | zero => exact ⟨Nat.le_refl _, fun f hf => absurd hf (Nat.not_lt_zero f)⟩
  | succ n ih =>
    obtain ⟨h1, h2⟩ := ih
    rw [pN]
    refine ⟨by split <;> (try split) <;> (try split) <;> omega, fun f hf c1 c2 => ?_⟩
    rcases Nat.lt_or_ge f n with z | z
    · obtain ⟨a, b⟩ := h2 f z c1 c2
      refine ⟨by split <;> (try split) <;> (try split) <;> omega, fun c3 => ?_⟩
      have := b c3
      split <;> (try split) <;> (try split) <;> omega
    · have e : f = n := by omega
      subst e
      rw [if_pos c1, if_pos c2]
      refine ⟨by split <;> omega, fun c3 => ?_⟩
      rw [if_pos c3]
      omega
theorem pN_gt (ht : t < 1000000) : ∀ n, t < pN G lim l t n ∧ (pN G lim l t n = 1000000 ∨ ∃ f, f < n ∧ gOv G f l = true ∧ (pN G lim l t n = lim f ∨ pN G lim l t n = lSt G f)) := by
  intro n
  induction n with
  | zero => exact ⟨ht, Or.inl rfl⟩
  | succ n ih =>
    obtain ⟨h1, h2⟩ := ih
    have h3 : pN G lim l t n = 1000000 ∨ ∃ f, f < n + 1 ∧ gOv G f l = true ∧ (pN G lim l t n = lim f ∨ pN G lim l t n = lSt G f) := by
      rcases h2 with h2 | ⟨f, a, b, c⟩
      · exact Or.inl h2
      · exact Or.inr ⟨f, by omega, b, c⟩
    rw [pN]
    by_cases c1 : gOv G n l = true
    · rw [if_pos c1]
      by_cases c2 : t < lim n
      · rw [if_pos c2]
        by_cases c3 : t < lSt G n
        · rw [if_pos c3]
          refine ⟨by omega, ?_⟩
          rcases (show min (pN G lim l t n) (min (lSt G n) (lim n)) = pN G lim l t n ∨ min (pN G lim l t n) (min (lSt G n) (lim n)) = lSt G n ∨ min (pN G lim l t n) (min (lSt G n) (lim n)) = lim n by omega) with e | e | e
          · rw [e]; exact h3
          · exact Or.inr ⟨n, by omega, c1, Or.inr e⟩
          · exact Or.inr ⟨n, by omega, c1, Or.inl e⟩
        · rw [if_neg c3]
          refine ⟨by omega, ?_⟩
          rcases (show min (pN G lim l t n) (lim n) = pN G lim l t n ∨ min (pN G lim l t n) (lim n) = lim n by omega) with e | e
          · rw [e]; exact h3
          · exact Or.inr ⟨n, by omega, c1, Or.inl e⟩
      · rw [if_neg c2]; exact ⟨h1, h3⟩
    · rw [if_neg c1]; exact ⟨h1, h3⟩
/-- between t and the next turn all rates lie on a line -/
theorem lS_line (I : IQ G) {x : Nat} (h1 : t < x) (h2 : x ≤ pN G lim l t 20) : lS G lim l x = pS G lim l t 20 + pL G lim l t 20 * (x - t) := by
  have key : ∀ n, n ≤ 20 → fb_sm (fun f => if gOv G f l = true then gRate G f (min x (lim f)) else 0) n = pS G lim l t n + pL G lim l t n * (x - t) := by
    intro n
    induction n with
    | zero => intro _; simp [fb_sm, pS, pL]
    | succ n ih =>
      intro hn
      have e1 : pS G lim l t (n + 1) = pS G lim l t n + (if gOv G n l = true then (if t < lim n then (if t < lSt G n then gLeast G n else gWt G n * t) else gRate G n (lim n)) else 0) := rfl
      have e2 : pL G lim l t (n + 1) = pL G lim l t n + (if gOv G n l = true ∧ t < lim n ∧ ¬ t < lSt G n then gWt G n else 0) := rfl
      rw [fb_sm_succ, ih (by omega), e1, e2, Nat.add_mul]
      have e3 : (if gOv G n l = true then gRate G n (min x (lim n)) else 0) = (if gOv G n l = true then (if t < lim n then (if t < lSt G n then gLeast G n else gWt G n * t) else gRate G n (lim n)) else 0) + (if gOv G n l = true ∧ t < lim n ∧ ¬ t < lSt G n then gWt G n else 0) * (x - t) := by
        by_cases c1 : gOv G n l = true
        · obtain ⟨-, -, -, w1, -⟩ := I.ov (show n < 20 by omega) c1
          rw [if_pos c1, if_pos c1]
          by_cases c2 : t < lim n
          · obtain ⟨a, b⟩ := (pN_le (G := G) (lim := lim) (l := l) (t := t) 20).2 n (by omega) c1 c2
            rw [if_pos c2, Nat.min_eq_left (by omega)]
            by_cases c3 : t < lSt G n
            · rw [if_pos c3, if_neg (fun z => z.2.2 c3), Nat.zero_mul, Nat.add_zero]
              have b2 := b c3
              have h3 : gWt G n * x ≤ gWt G n * lSt G n := Nat.mul_le_mul_left _ (by omega)
              have h4 : gWt G n * lSt G n ≤ gLeast G n := Nat.mul_div_le _ _
              unfold gRate
              omega
            · rw [if_neg c3, if_pos ⟨c1, c2, c3⟩, ← Nat.mul_add, show t + (x - t) = x by omega]
              have h3 : gLeast G n < gWt G n * (lSt G n + 1) := by
                have h5 := Nat.div_add_mod (gLeast G n) (gWt G n)
                have h6 := Nat.mod_lt (gLeast G n) w1
                rw [Nat.mul_add, Nat.mul_one]
                unfold lSt
                omega
              have h4 : gWt G n * (lSt G n + 1) ≤ gWt G n * x := Nat.mul_le_mul_left _ (by omega)
              unfold gRate
              omega
          · rw [if_neg c2, if_neg (fun z => c2 z.2.1), Nat.zero_mul, Nat.add_zero, Nat.min_eq_right (by omega)]
        · rw [if_neg c1, if_neg c1, if_neg (fun z => c1 z.1), Nat.zero_mul]
      rw [e3]
      omega
  exact key 20 (by omega)
theorem pS_le (I : IQ G) : pS G lim l t 20 ≤ lS G lim l t := by
  refine fb_sm_le (fun f hf => ?_)
  by_cases c1 : gOv G f l = true
  · simp only [if_pos c1]
    by_cases c2 : t < lim f
    · rw [if_pos c2, Nat.min_eq_left (by omega)]
      unfold gRate
      split <;> omega
    · rw [if_neg c2, Nat.min_eq_right (by omega)]
      exact Nat.le_refl _
  · simp only [if_neg c1]
    exact Nat.le_refl _
theorem pS_small (I : IQ G) (hl : ∀ f, f < 20 → gOv G f l = true → lim f ≤ 1000000) (ht : t ≤ 1000000) (n : Nat) (hn : n ≤ 20) : pS G lim l t n ≤ n * 9000009 := by
  refine fb_sm_bound (fun f hf => ?_)
  by_cases c1 : gOv G f l = true
  · obtain ⟨d1, -, -, w1, w2, w3, w4⟩ := I.ov (show f < 20 by omega) c1
    have hlf := hl f (by omega) c1
    have h3 := gRate_le I (show f < 20 by omega) d1 (t := lim f) (by omega)
    have h4 : gWt G f * t ≤ 9 * 1000000 := Nat.mul_le_mul w2 ht
    simp only [if_pos c1]
    split
    · split <;> omega
    · exact h3
  · simp only [if_neg c1]
    omega
theorem pL_small (I : IQ G) (n : Nat) (hn : n ≤ 20) : pL G lim l t n ≤ n * 9 := by
  refine fb_sm_bound (fun f hf => ?_)
  by_cases c : gOv G f l = true ∧ t < lim f ∧ ¬ t < lSt G f
  · obtain ⟨d1, -, -, w1, w2, w3, w4⟩ := I.ov (show f < 20 by omega) c.1
    simp only [if_pos c]
    exact w2
  · simp only [if_neg c]
    omega
/-- how many turns are ahead -/
def tB (G : GR) (lim : Nat → Nat) (l t : Nat) : Nat := fb_ct (fun f => gOv G f l && decide (t < lim f)) 20 + fb_ct (fun f => gOv G f l && decide (t < lSt G f)) 20
theorem tB_le : tB G lim l t ≤ 40 := by
  have a := fb_ct_le (fun f => gOv G f l && decide (t < lim f)) 20
  have b := fb_ct_le (fun f => gOv G f l && decide (t < lSt G f)) 20
  unfold tB
  omega
theorem ct_less {q r : Nat → Bool} {n k : Nat} (hs : ∀ j, j < n → r j = true → q j = true) (hk : k < n) (h1 : q k = true) (h2 : r k = false) : fb_ct r n + 1 ≤ fb_ct q n := by
  have h3 := fb_ct_upd r true hk
  rw [h2] at h3
  simp only [Bool.false_eq_true, if_false, if_true] at h3
  have h4 : fb_ct (fun j => if j = k then true else r j) n ≤ fb_ct q n := fb_ct_sub (fun j hj h5 => by
    by_cases e : j = k
    · rw [e]; exact h1
    · rw [if_neg e] at h5; exact hs j hj h5)
  omega
theorem tB_next (ht : t < 1000000) (hn : pN G lim l t 20 < 1000000) : tB G lim l (pN G lim l t 20) + 1 ≤ tB G lim l t := by
  obtain ⟨h1, h2⟩ := pN_gt (G := G) (lim := lim) (l := l) ht 20
  generalize pN G lim l t 20 = x at *
  rcases h2 with h2 | ⟨f, hf, c1, c2⟩
  · omega
  · have m1 : fb_ct (fun f => gOv G f l && decide (x < lim f)) 20 ≤ fb_ct (fun f => gOv G f l && decide (t < lim f)) 20 := fb_ct_sub (fun j _ h5 => by
      have : gOv G j l = true ∧ x < lim j := by simpa using h5
      simp [this.1]; omega)
    have m2 : fb_ct (fun f => gOv G f l && decide (x < lSt G f)) 20 ≤ fb_ct (fun f => gOv G f l && decide (t < lSt G f)) 20 := fb_ct_sub (fun j _ h5 => by
      have : gOv G j l = true ∧ x < lSt G j := by simpa using h5
      simp [this.1]; omega)
    unfold tB
    rcases c2 with c2 | c2
    · have := ct_less (q := fun f => gOv G f l && decide (t < lim f)) (r := fun f => gOv G f l && decide (x < lim f)) (n := 20) (fun j _ h5 => by
        have : gOv G j l = true ∧ x < lim j := by simpa using h5
        simp [this.1]; omega) hf (by simp [c1]; omega) (by simp [c1]; omega)
      omega
    · have := ct_less (q := fun f => gOv G f l && decide (t < lSt G f)) (r := fun f => gOv G f l && decide (x < lSt G f)) (n := 20) (fun j _ h5 => by
        have : gOv G j l = true ∧ x < lSt G j := by simpa using h5
        simp [this.1]; omega) hf (by simp [c1]; omega) (by simp [c1]; omega)
      omega
theorem lS_gl {r : Nat} (hr : r ≤ 1000000) (h1 : lS G lim l r ≤ gCap G l) (h2 : r = 1000000 ∨ gCap G l < lS G lim l (r + 1)) : gl (fun t => decide (lS G lim l t ≤ gCap G l)) = r := by
  refine gl_eq (fun a b hab hb => ?_) hr (by simpa using h1) (h2.elim Or.inl (fun z => Or.inr (by simp; omega)))
  have := lS_mono (G := G) (lim := lim) (l := l) hab
  simp only [decide_eq_true_eq] at hb ⊢
  omega
/-- one piece of the walk -/
theorem c_piece (R : RP p h G) (I : IQ G) {a : Nat} (hl : l < 10) (hA : ∀ f, f < 20 → gOv G f l = true → h.1 a f = nI (lim f) ∧ lim f ≤ 1000000) (ht : t < 1000000) (hS : lS G lim l t ≤ gCap G l) (K : Int32 → Int32 → Int32 → Int32 → th_H → Option (Int32 × th_H)) (i : Nat) (hi : i ≤ 40) :
    fX0_greatestLevel_c40 p a K 1000 (nI l) (nI (mk (fun f => gOv G f l) 20)) (nI t) (nI i) 0 0 1000000 0 h = (if pL G lim l t 20 = 0 ∨ pN G lim l t 20 ≤ t + (gCap G l - pS G lim l t 20) / pL G lim l t 20 then K (nI l) (nI (mk (fun f => gOv G f l) 20)) (nI (pN G lim l t 20)) (nI (i + 1)) h else some (nI (t + (gCap G l - pS G lim l t 20) / pL G lim l t 20), h)) := by
  have hl2 : ∀ f, f < 20 → gOv G f l = true → lim f ≤ 1000000 := fun f hf c => (hA f hf c).2
  refine for_up 20 (fun fu j => fX0_greatestLevel_c40 p a K fu (nI l) (nI (mk (fun f => gOv G f l) 20)) (nI t) (nI i) (nI (pS G lim l t j)) (nI (pL G lim l t j)) (nI (pN G lim l t j)) (nI j) h) _ ?_ ?_ (by omega)
  · intro fu j hj
    have e1 : pS G lim l t (j + 1) = pS G lim l t j + (if gOv G j l = true then (if t < lim j then (if t < lSt G j then gLeast G j else gWt G j * t) else gRate G j (lim j)) else 0) := rfl
    have e2 : pL G lim l t (j + 1) = pL G lim l t j + (if gOv G j l = true ∧ t < lim j ∧ ¬ t < lSt G j then gWt G j else 0) := rfl
    have hN := (pN_le (G := G) (lim := lim) (l := l) (t := t) j).1
    rw [fX0_greatestLevel_c40, if_pos (show nI j < (20 : Int32) from nI_lt (a := j) (b := 20) hj (by omega)), e_bit (mk20 _) (by omega), ic e_c0, mk20_bit _ hj, nI_1, e1, e2, pN]
    by_cases c1 : gOv G j l = true
    · obtain ⟨d1, -, -, w1, w2, w3, w4⟩ := I.ov hj c1
      obtain ⟨a1, a2⟩ := hA j hj c1
      obtain ⟨q1, q2, q3⟩ := R.2.2.2.1 j hj d1
      have hst : lSt G j ≤ 1000000 := Nat.le_trans (Nat.div_le_self _ _) (by omega)
      rw [if_neg (not_not_intro c1), e_rd hj (by omega), q2, c_byWeight R I hj d1 (by omega), e_bd, e_rd hj (by omega), a1, ic (e_lt (by omega) (by omega)), if_pos c1, if_pos c1]
      by_cases c2 : t < lim j
      · rw [if_pos c2, if_pos c2, if_pos c2]
        show (if nI t < nI (lSt G j) then _ else _) = _
        rw [ic (e_lt (by omega) (by omega))]
        by_cases c3 : t < lSt G j
        · rw [if_pos c3, if_pos c3, if_pos c3, if_neg (fun z => z.2.2 c3), e_rd hj (by omega), q2, e_rd hj (by omega), a1, nI_add]
          show fX0_greatestLevel_c40 p a K fu _ _ _ _ _ _ (th_mn _ (th_mn (nI (lSt G j)) _)) _ _ = _
          rw [e_mn (by omega) (by omega), e_mn (by omega) (by omega)]
          rfl
        · rw [if_neg c3, if_neg c3, if_neg c3, if_pos ⟨c1, c2, c3⟩, e_rd hj (by omega), q1, e_rd hj (by omega), q1, e_rd hj (by omega), a1, pk_mul, nI_add, nI_add, e_mn (by omega) (by omega)]
      · rw [if_neg c2, if_neg c2, if_neg c2, if_neg (fun z => c2 z.2.1), e_rd hj (by omega), a1, c_rateBy R I hj d1 (by omega), e_bd, nI_add]
        rfl
    · rw [if_pos c1, if_neg c1, if_neg c1, if_neg (fun z => c1 z.1)]
      rfl
  · intro fu
    have hP := pS_small I hl2 (show t ≤ 1000000 by omega) 20 (by omega)
    have hL := pL_small (lim := lim) (l := l) (t := t) I 20 (by omega)
    have hN := (pN_le (G := G) (lim := lim) (l := l) (t := t) 20).1
    have hcap := I.1 l hl
    have hps := pS_le (lim := lim) (l := l) (t := t) I
    rw [fX0_greatestLevel_c40, if_neg (by decide), ic (e_ltl (n := 1) (show pL G lim l t 20 < 2147483648 by omega) (by decide))]
    by_cases c : pL G lim l t 20 < 1
    · rw [if_pos c, if_pos (Or.inl (by omega))]
      unfold fX0_greatestLevel_c209
      rw [if_neg (show ¬ (1000000 : Int32) < nI (pN G lim l t 20) from nI_nlt (a := 1000000) hN (by omega)), nI_1]
    · have hq : (gCap G l - pS G lim l t 20) / pL G lim l t 20 ≤ gCap G l - pS G lim l t 20 := Nat.div_le_self _ _
      rw [if_neg c, e_rd hl (by omega), R.1 l hl, e_dv (by omega) (by omega), pk_sub (by omega), pk_div (by omega) (by omega) (by omega), nI_add]
      unfold fX0_greatestLevel_c209
      rw [ic (e_lt (show t + (gCap G l - pS G lim l t 20) / pL G lim l t 20 < 2147483648 by omega) (show pN G lim l t 20 < 2147483648 by omega)), nI_1]
      by_cases c2 : t + (gCap G l - pS G lim l t 20) / pL G lim l t 20 < pN G lim l t 20
      · rw [if_pos c2, if_neg (by omega)]
      · rw [if_neg c2, if_pos (by omega)]
theorem c_greatestLevel (R : RP p h G) (I : IQ G) {a : Nat} (hl : l < 10) (hA : ∀ f, f < 20 → gOv G f l = true → h.1 a f = nI (lim f) ∧ lim f ≤ 1000000) (h0 : lS G lim l 0 ≤ gCap G l) : fX0_greatestLevel p a (nI l) h = some (nI (gl (fun t => decide (lS G lim l t ≤ gCap G l))), h) := by
  unfold fX0_greatestLevel
  rw [c_crowd R hl]
  have key : ∀ d i t fu, d + i = 41 → 41 - i < fu → t ≤ 1000000 → lS G lim l t ≤ gCap G l → (t = 1000000 ∨ i + tB G lim l t ≤ 40) → fX0_greatestLevel_c13 p a fu (nI l) (nI (mk (fun f => gOv G f l) 20)) (nI t) (nI i) h = some (nI (gl (fun t => decide (lS G lim l t ≤ gCap G l))), h) := by
    intro d
    induction d with
    | zero =>
      intro i t fu hd hfu ht hS hB
      obtain ⟨k, rfl⟩ : ∃ k, fu = k + 1 := ⟨fu - 1, by omega⟩
      have e : t = 1000000 := by omega
      rw [show i = 41 by omega, fX0_greatestLevel_c13, if_pos (by decide), lS_gl ht hS (Or.inl e)]
    | succ d ih =>
      intro i t fu hd hfu ht hS hB
      obtain ⟨k, rfl⟩ : ∃ k, fu = k + 1 := ⟨fu - 1, by omega⟩
      rw [fX0_greatestLevel_c13, if_neg (show ¬ (40 : Int32) < nI i from nI_nlt (a := 40) (by omega) (by omega)), ic (e_ltl (n := 1000000) (show t < 2147483648 by omega) (by decide))]
      by_cases c : t < 1000000
      · rw [if_pos (show t < (OfNat.ofNat 1000000 : Nat) from c), c_piece R I hl hA c hS _ i (by omega)]
        obtain ⟨n1, -⟩ := pN_gt (G := G) (lim := lim) (l := l) c 20
        have hN := (pN_le (G := G) (lim := lim) (l := l) (t := t) 20).1
        have hps := pS_le (lim := lim) (l := l) (t := t) I
        by_cases c2 : pL G lim l t 20 = 0 ∨ pN G lim l t 20 ≤ t + (gCap G l - pS G lim l t 20) / pL G lim l t 20
        · rw [if_pos c2]
          refine ih (i + 1) _ k (by omega) (by omega) hN ?_ ?_
          · rw [lS_line I n1 (Nat.le_refl _)]
            rcases c2 with z | z
            · rw [z, Nat.zero_mul]; omega
            · have h3 : pL G lim l t 20 * (pN G lim l t 20 - t) ≤ pL G lim l t 20 * ((gCap G l - pS G lim l t 20) / pL G lim l t 20) := Nat.mul_le_mul_left _ (by omega)
              have h4 := Nat.mul_div_le (gCap G l - pS G lim l t 20) (pL G lim l t 20)
              omega
          · rcases Nat.lt_or_ge (pN G lim l t 20) 1000000 with z | z
            · have := tB_next (G := G) (lim := lim) (l := l) c z
              right
              omega
            · left; omega
        · rw [if_neg c2]
          have hp : 0 < pL G lim l t 20 := by omega
          have hlt : t + (gCap G l - pS G lim l t 20) / pL G lim l t 20 < pN G lim l t 20 := by omega
          generalize hq : (gCap G l - pS G lim l t 20) / pL G lim l t 20 = q at hlt ⊢
          have h4 := Nat.mul_div_le (gCap G l - pS G lim l t 20) (pL G lim l t 20)
          have h5 := Nat.lt_mul_div_succ (gCap G l - pS G lim l t 20) hp
          rw [hq] at h4 h5
          rw [lS_gl (r := t + q) (by omega) ?_ ?_]
          · rcases Nat.eq_zero_or_pos q with z | z
            · rw [z, Nat.add_zero]; exact hS
            · rw [lS_line (t := t) (x := t + q) I (by omega) (by omega), show t + q - t = q by omega]
              omega
          · right
            rw [lS_line (t := t) (x := t + q + 1) I (by omega) (by omega), show t + q + 1 - t = q + 1 by omega]
            omega
      · rw [if_neg (show ¬ t < (OfNat.ofNat 1000000 : Nat) from c), lS_gl ht hS (Or.inl (by omega))]
  exact key 41 0 0 1000 (by omega) (by omega) (by omega) h0 (Or.inr (by have := tB_le (G := G) (lim := lim) (l := l) (t := 0); omega))
end
