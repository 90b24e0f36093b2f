/-! ===== hold ===== -/
theorem fa_xor' (a b : Nat) : nI a ^^^ nI b = nI (a ^^^ b) := by
  apply Int32.toBitVec_inj.1
  show BitVec.ofNat 32 a ^^^ BitVec.ofNat 32 b = BitVec.ofNat 32 (a ^^^ b)
  apply BitVec.eq_of_getLsbD_eq
  intro i hi
  simp [hi]
def gHd (G : GR) (f : Nat) : Bool := gTh G f && gHeld G f == 1
theorem mk_flip {p p' : Nat → Bool} {f n : Nat} (hf : f < n) (h1 : p' f = !p f) (h2 : ∀ g, g ≠ f → p' g = p g) : mk p n ^^^ 2 ^ f = mk p' n := by
  apply Nat.eq_of_testBit_eq
  intro i
  rw [Nat.testBit_xor, mk_bit, mk_bit, Nat.testBit_two_pow]
  by_cases c : f = i
  · subst c
    simp [hf, h1]
  · simp [c, h2 i (fun e => c e.symm)]
section
variable {q : Nat} {h h2 m m2 : th_H} {G G' : GR} {n : Nat}
theorem m_heldMany (R : RM h G) (I : II G) : fX4_heldMany h = some (nI (fb_ct (gHd G) 20), h) := by
  unfold fX4_heldMany
  refine for_up 20 (fun fu i => fX4_heldMany_c4 fu (nI (fb_ct (gHd G) i)) (nI i) h) _ ?_ ?_ (by omega)
  · intro fu i hi
    rw [fX4_heldMany_c4, if_pos (show nI i < (20 : Int32) from nI_lt (a := i) (b := 20) hi (by omega)), m_at, e_bd, m_row R (by omega), m_at, e_bd, e_addl, m_row R (by omega), pk_mul, nI_add, nI_1]
    have e : fb_ct (gHd G) i + G (23 + 11 * i) * G (23 + 11 * i + 6) = fb_ct (gHd G) (i + 1) := by
      rw [fb_ct_succ]
      congr 1
      have h1 := (I.1.1.2 i hi).1
      unfold gHd
      by_cases c : gTh G i = true
      · have h3 : G (23 + 11 * i) = 1 := by rw [gTh_iff]; exact c
        have h4 : gHeld G i ≤ 1 := I.ih i hi c
        have h5 : gHeld G i = 0 ∨ gHeld G i = 1 := by omega
        rw [c, h3, Nat.one_mul]
        show gHeld G i = _
        rcases h5 with h5 | h5 <;> rw [h5] <;> rfl
      · have h3 : G (23 + 11 * i) = 0 := by
          have : ¬ G (23 + 11 * i) = 1 := fun z => c (by rw [gTh_iff] at z; exact z)
          omega
        rw [h3, Nat.zero_mul]
        simp [c]
    rw [e]
  · intro fu
    rw [fX4_heldMany_c4, if_neg (by decide)]
theorem RP.sq {p : Nat} (R : RP p h G) (S : SQ G G') : RP p h G' := by
  obtain ⟨a, b, c, d, e⟩ := R
  refine ⟨fun l hl => by rw [S.cap hl]; exact a l hl, fun l hl => by rw [mk_cong (fun f hf => S.ov hf)]; exact b l hl, fun f hf => by rw [S.th hf, S.path hf]; exact c f hf, fun f hf ht => ?_, by rw [mk_cong (fun f hf => S.th hf)]; exact e⟩
  rw [S.th hf] at ht
  rw [S.wt hf, S.least hf, S.want hf]
  exact d f hf ht
theorem SQ.held {f v : Nat} : SQ G (gu G (23 + 11 * f + 6) v) := ⟨fun l hl => gu_ne (by omega), fun g j hg hj => gu_ne (by omega)⟩
theorem gAdv_sq (S : SQ G G') (e : ∀ k, 243 ≤ k → G' k = G k) {l : Nat} (hl : l < 10) : gAdv G' l = gAdv G l := gl_cong (fun t _ => by
  have : gS G' l t = gS G l t := fb_sm_cong (fun f hf => by
    rw [S.ov hf, S.rate hf]
    unfold gEls gAh gBh
    rw [e _ (by omega), e _ (by omega)])
  rw [this, S.cap hl])
theorem II.held (I : II G) {f v : Nat} (hf : f < 20) (hv : v ≤ 1) : II (gu G (23 + 11 * f + 6) v) := by
  have S : SQ G (gu G (23 + 11 * f + 6) v) := SQ.held
  obtain ⟨⟨⟨a1, a2⟩, b, e, ls, bg⟩, i2, i3⟩ := I
  have ne : ∀ k, k ≠ 23 + 11 * f + 6 → gu G (23 + 11 * f + 6) v k = G k := fun k hk => gu_ne hk
  refine ⟨⟨⟨fun l hl => by rw [S.cap hl]; exact a1 l hl, fun g hg => ?_⟩, fun l hl => by rw [S.bnd, S.cap hl]; exact b l hl, fun g hg ht l hl => ?_, fun l hl => by rw [ne _ (by omega)]; exact ls l hl, fun k h1 h2 => ?_⟩, fun g g' hg hg' tg tg' e => ?_, fun g hg ht => ?_⟩
  · rw [S.th hg, S.path hg, S.wt hg, S.least hg, S.want hg, ne _ (by omega)]
    exact a2 g hg
  · rw [S.th hg] at ht
    unfold gAh gBh
    rw [ne _ (by omega), ne _ (by omega)]
    exact e g hg ht l hl
  · unfold gu
    by_cases z : k = 23 + 11 * f + 6
    · rw [if_pos z]; omega
    · rw [if_neg z]; exact bg k h1 h2
  · rw [S.th hg] at tg
    rw [S.th hg'] at tg'
    rw [S.name hg, S.name hg'] at e
    exact i2 g g' hg hg' tg tg' e
  · rw [S.th hg] at ht
    have := i3 g hg ht
    rw [S.name hg, S.path hg]
    unfold gTold gWay gWl gWh gAh gBh at this ⊢
    rw [ne _ (by omega), ne _ (by omega), ne _ (by omega), ne _ (by omega)]
    refine ⟨this.1, ?_, this.2.2.1, this.2.2.2.1, this.2.2.2.2.1, fun l hl hb => ?_⟩
    · show gu G (23 + 11 * f + 6) v (23 + 11 * g + 6) ≤ 1
      unfold gu
      by_cases z : 23 + 11 * g + 6 = 23 + 11 * f + 6
      · rw [if_pos z]; exact hv
      · rw [if_neg z]; exact this.2.1
    · rw [ne _ (by omega), ne _ (by omega)]
      exact this.2.2.2.2.2 l hl hb
theorem RQ.held (R : RQ q h G) {f v : Nat} (hf : f < 20) {x : Int32} (hx : x = nI (mk (gHd (gu G (23 + 11 * f + 6) v)) 20)) : RQ q (th_up h q 8 x) (gu G (23 + 11 * f + 6) v) := by
  have S : SQ G (gu G (23 + 11 * f + 6) v) := SQ.held
  obtain ⟨a, b, c, d, e, g, i, j, k⟩ := R
  have ne : ∀ k, k ≠ 23 + 11 * f + 6 → gu G (23 + 11 * f + 6) v k = G k := fun k hk => gu_ne hk
  have uc : ∀ c, c ≠ q → (th_up h q 8 x).1 c = h.1 c := fun c hc => up_cell hc
  refine ⟨(a.off (fun c y z _ => uc c (by omega)) (by rw [uc _ (by omega)])).sq S, fun g hg ht => ?_, fun l hl => ?_, fun g hg ht => ?_, fun g hg ht => ?_, ?_, ?_, ?_, ?_⟩
  · rw [S.th hg] at ht
    rw [uc _ (by omega), S.name hg]; exact b g hg ht
  · unfold gLose
    rw [uc _ (by omega), ne _ (by omega)]; exact c l hl
  · rw [S.th hg] at ht
    have := d g hg ht
    unfold gTold gWay gWl gWh gAh gBh at this ⊢
    rw [uc (q + 11) (by omega), uc (q + 13) (by omega), uc (q + 14) (by omega), uc (q + 15) (by omega), uc (q + 9) (by omega), uc (q + 10) (by omega), ne _ (by omega), ne _ (by omega), ne _ (by omega), ne _ (by omega)]
    refine ⟨this.1, this.2.1, this.2.2.1, fun l hl => ?_⟩
    rw [ne _ (by omega), ne _ (by omega)]
    exact this.2.2.2 l hl
  · rw [S.th hg] at ht
    rw [uc (q + 11) (by omega), uc (q + 13) (by omega), uc (q + 9) (by omega), uc (q + 10) (by omega)]
    exact e g hg ht
  · rw [up_same]; exact hx
  · rw [up_at, if_neg (by omega), ne _ (by omega)]; exact i
  · rw [up_at, if_neg (by omega), ne _ (by omega)]; exact j
  · rw [up_at, if_neg (by omega), ne _ (by omega)]; exact k
end
theorem s_hold (x y : Int32) (hy : y = 0 ∨ y = 1) : Sp2 (fX3_hold x y) (fX4_hold x y) := by
  intro n h m hn ⟨G, R⟩
  have R0 := R.th0
  unfold fX3_hold fX4_hold
  simp only [bd1]
  rw [e_st]
  rcases R0.flow x with ⟨a, b⟩ | ⟨f, hf, e, ht, a, b⟩
  · rw [a, b, e_bd, e_bd, if_pos rfl, if_pos rfl]
    exact R.no (w := 1) (by omega)
  · rw [a, b, e_bd, e_bd, if_neg (by decide), if_neg (by decide), e, c_isHeld R.1 hf, e_bd, e_st]
    have hh := R.2.2.1.ih f hf ht
    obtain ⟨v, hv, ev⟩ : ∃ v, v ≤ 1 ∧ y = nI v := hy.elim (fun z => ⟨0, by omega, z⟩) (fun z => ⟨1, by omega, z⟩)
    have em : (if y = 0 then fX4_hold_c28 (nI f) 0 (th_up m 0 0 0) else fX4_hold_c28 (nI f) 1 (th_up m 0 0 0)) = fX4_hold_c28 (nI f) (nI v) (th_up m 0 0 0) := by
      rcases hy with z | z
      · rw [if_pos z, ← ev, z]
      · rw [if_neg (by rw [z]; decide), ← ev, z]
    have e1 : (bI (gTh G f && gHeld G f == 1) = y) = (gHeld G f = v) := by
      rw [ht, ev]
      have h2 : gHeld G f = 0 ∨ gHeld G f = 1 := by omega
      have h3 : v = 0 ∨ v = 1 := by omega
      rcases h2 with h2 | h2 <;> rcases h3 with h3 | h3 <;> rw [h2, h3] <;> decide
    rw [em, ic e1]
    unfold fX4_hold_c28
    simp only [bd1]
    rw [m_at, e_bd, e_addl, m_row R0.2.1 (by omega), m_at, e_bd, e_addl, e_wr (by omega) (by omega)]
    show ∃ r h2 m2, _ = _ ∧ (if nI (gHeld G f) = nI v then _ else _) = _ ∧ _
    rw [ic (e_eq (show gHeld G f < 2147483648 by omega) (show v < 2147483648 by omega))]
    by_cases c : gHeld G f = v
    · rw [if_pos c, if_pos c]
      exact R.no (w := 2) (by omega)
    · rw [if_neg c, if_neg c]
      have M : MF (th_up m 0 0 0) (th_up (th_up m 0 0 0) 2 (23 + 11 * f + 6) (nI v)) (gu G (23 + 11 * f + 6) v) := (MF.rf R0.2.1).up
      have I2 := R.2.2.1.held hf hv
      have S : SQ G (gu G (23 + 11 * f + 6) v) := SQ.held
      have ex : h.1 1 8 ^^^ ((1 : Int32) <<< (nI f &&& 31)) = nI (mk (gHd (gu G (23 + 11 * f + 6) v)) 20) := by
        rw [R.1.2.2.2.2.2.1, e_shl (by omega), fa_xor']
        refine congrArg nI (mk_flip hf ?_ (fun g hg => ?_))
        · unfold gHd
          rw [S.th hf, ht]
          have : gHeld (gu G (23 + 11 * f + 6) v) f = v := gu_eq
          rw [this]
          have h2 : gHeld G f = 0 ∨ gHeld G f = 1 := by omega
          have h3 : v = 0 ∨ v = 1 := by omega
          rcases h2 with h2 | h2 <;> rcases h3 with h3 | h3 <;> first | exact absurd (h2.trans h3.symm) c | (rw [h2, h3]; rfl)
        · unfold gHd gTh gHeld
          rw [gu_ne (by omega), gu_ne (by omega)]
      rw [m_heldMany M.1 I2, ex, up_same, c_bits (Nat.lt_of_lt_of_le (mk_lt _ 20) (Nat.le_refl _)), mk_ct]
      refine ⟨_, _, _, rfl, rfl, _, (R0.pz0 hn (PZ.rf.up (Or.inl rfl)) (R.1.held hf rfl) (R.2.2.2.1.keep (by rw [up_at, if_neg (by omega)]) (by rw [up_cell (by omega)]) (by rw [up_cell (by omega)]) (fun l hl => gAdv_sq S (fun k hk => gu_ne (by omega)) hl)) I2 S (M.mx []) (by simp) (by simp) (by simp)).inc⟩
