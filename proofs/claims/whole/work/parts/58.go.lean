/-! ===== go ===== -/
def ctb (G : GR) (f l : Nat) : Nat := if gOv G f l = true then gLeast G f else 0
section
variable {p q f : Nat} {h h2 : th_H} {G G' : GR}
theorem FLX.bnd (X : FLX f G G') (hf : f < 20) (l : Nat) : gBnd G' l + ctb G f l = gBnd G l + ctb G' f l := by
  have e : gBnd G' l = fb_sm (fun g => if g = f then ctb G' f l else ctb G g l) 20 := fb_sm_cong (fun g hg => by
    by_cases z : g = f
    · rw [if_pos z, z]; rfl
    · rw [if_neg z, X.ov hf hg z, X.least hf hg z]; rfl)
  rw [e]
  exact fb_sm_upd (fun g => ctb G g l) (ctb G' f l) hf
theorem FLX.ib (X : FLX f G G') (hf : f < 20) (B : IB G) (hle : ∀ l, l < 10 → ctb G' f l ≤ ctb G f l) : IB G' := by
  intro l hl
  have h1 := X.bnd hf l
  have h2 := B l hl
  have h3 := hle l hl
  rw [X.cap hl]
  omega
theorem IQ.flow (I : IQ G) (X : FLX f G G') (hf : f < 20) (t1 : G' (23 + 11 * f) ≤ 1) (T1 : gTh G' f = true → 0 < gPath G' f ∧ gPath G' f < 1024 ∧ 0 < gWt G' f ∧ gWt G' f ≤ 9 ∧ gLeast G' f ≤ gWant G' f ∧ gWant G' f ≤ 1000000) : IQ G' := by
  obtain ⟨a1, a2⟩ := I
  refine ⟨fun l hl => by rw [X.cap hl]; exact a1 l hl, fun g hg => ?_⟩
  by_cases z : g = f
  · rw [z]; exact ⟨t1, T1⟩
  · rw [X.th hf hg z, X.path hf hg z, X.wt hf hg z, X.least hf hg z, X.want hf hg z, X _ (by omega)]
    exact a2 g hg
theorem FLX.one {j v : Nat} (hj : j ≤ 10) : FLX f G (gu G (23 + 11 * f + j) v) := fun k hk => gu_ne (by omega)
theorem FLX.tr {G'' : GR} (X : FLX f G G') (Y : FLX f G' G'') : FLX f G G'' := fun k hk => (Y k hk).trans (X k hk)
theorem gone : gTh (gu G (23 + 11 * f) 0) f = false := by unfold gTh; rw [gu_eq]; rfl
theorem gone_x : FLX f G (gu G (23 + 11 * f) 0) := FLX.one (j := 0) (by omega)
theorem gone_ov {l : Nat} : gOv (gu G (23 + 11 * f) 0) f l = false := by unfold gOv; rw [gone]; rfl
theorem gone_ii (I : II G) (hf : f < 20) : II (gu G (23 + 11 * f) 0) := by
  have X : FLX f G (gu G (23 + 11 * f) 0) := gone_x
  have no : ¬ gTh (gu G (23 + 11 * f) 0) f = true := by rw [gone]; decide
  refine I.flow X hf (by rw [gu_eq]; omega) (X.ib hf I.1.2.1 (fun l _ => ?_)) (fun k hk => ?_) (fun z => absurd z no) (fun z => absurd z no) (fun z => absurd z no) (fun z => absurd z no)
  · unfold ctb
    rw [gone_ov, if_neg (by decide)]
    exact Nat.zero_le _
  · unfold gu
    by_cases z : k = 23 + 11 * f
    · rw [if_pos z]; omega
    · rw [if_neg z]; exact I.1.2.2.2.2 k (by omega) (by omega)
theorem c_remove (R : RP p h G) (hf : f < 20) : ∃ h2, fX0_remove p (nI f) h = some ((), h2) ∧ RP p h2 (gu G (23 + 11 * f) 0) ∧ h2.1 p 8 = h.1 p 8 + 1 ∧ (∀ j, j ≠ 7 → j ≠ 8 → h2.1 p j = h.1 p j) ∧ (∀ c, c ≠ p → c ≠ p + 2 → c ≠ p + 4 → h2.1 c = h.1 c) ∧ h2.2 = h.2 := by
  have X : FLX f G (gu G (23 + 11 * f) 0) := gone_x
  obtain ⟨h1, q1, a2, a4f, a4, a8, aj, ac, al⟩ := c_setPath (p := p) (h := h) (C := fun l g => gOv G g l) (fun l hl => R.2.1 l hl) hf (m := 0) (by omega)
  unfold fX0_remove
  have q1' : fX0_setPath p (nI f) 0 h = some ((), h1) := q1
  rw [q1', e_bd, e_st]
  refine ⟨_, rfl, R.flow X hf ?_ (fun l hl => ?_) ?_ (fun g z => ?_) (fun z => absurd z (by rw [gone]; decide)) (fun g z => ⟨?_, ?_, ?_⟩) ?_, ?_, fun j x y => ?_, fun c x y z => ?_, al⟩
  · rw [up_cell (by omega), ac _ (by omega) (by omega) (by omega)]
  · rw [up_cell (by omega), a2 l hl]
    refine congrArg nI (mk_cong (fun g _ => ?_))
    by_cases z : g = f
    · rw [if_pos z, if_pos z, gone_ov, Nat.zero_testBit]
    · rw [if_neg z, if_neg z]
  · rw [up_cell (by omega), a4f, gone, if_neg (by decide)]
  · rw [up_cell (by omega), a4 g z]
  · rw [up_cell (by omega), ac _ (by omega) (by omega) (by omega)]
  · rw [up_cell (by omega), ac _ (by omega) (by omega) (by omega)]
  · rw [up_cell (by omega), ac _ (by omega) (by omega) (by omega)]
  · rw [up_same, aj 7 (by omega), R.2.2.2.2, off_bit hf]
    refine congrArg nI (mk_cong (fun g hg => ?_))
    by_cases z : g = f
    · rw [z, gone]; simp
    · rw [X.th hf hg z]
      have z2 : (g == f) = false := by simpa using z
      rw [z2]
      simp
  · rw [up_at, if_neg (by omega), a8]
  · rw [up_at, if_neg (by omega), aj j y]
  · rw [up_cell x, ac c x y z]
theorem c_letGo (R : RQ q h G) (hf : f < 20) : ∃ h2, fX1_letGo q (nI f) h = some ((), h2) ∧ RQ q h2 (gu G (23 + 11 * f) 0) ∧ h2.1 (q + 1) 8 = h.1 (q + 1) 8 + 1 ∧ h2.1 q 13 = h.1 q 13 ∧ (∀ c, (c < q ∨ q + 17 < c) → h2.1 c = h.1 c) ∧ h2.2 = h.2 := by
  have X : FLX f G (gu G (23 + 11 * f) 0) := gone_x
  obtain ⟨h1, q1, rp1, b8, bj, bc, bl⟩ := c_remove (p := q + 1) R.1 hf
  obtain ⟨h3, q3, F⟩ := c_forgetFlow (q := q) (h := h1) FF.rf hf
  obtain ⟨f9, f10, f11, f13, f16, fo, fl⟩ := F
  unfold fX1_letGo
  rw [q1, e_bd, q3, e_bd, e_st]
  have uo : ∀ c, c ≠ q → c ≠ q + 9 → c ≠ q + 10 → c ≠ q + 11 → c ≠ q + 13 → c ≠ q + 16 → ∀ x : Int32, (th_up h3 q 8 x).1 c = h1.1 c := fun c c0 c1 c2 c3 c4 c5 x => by rw [up_cell c0, fo c c1 c2 c3 c4 c5]
  have e0 : ∀ j, h3.1 q j = h.1 q j := fun j => by rw [fo q (by omega) (by omega) (by omega) (by omega) (by omega), bc q (by omega) (by omega) (by omega)]
  refine ⟨_, rfl, R.flow X hf (rp1.off (fun c x y _ => uo c (by omega) (by omega) (by omega) (by omega) (by omega) (by omega) _) (by rw [uo (q + 1) (by omega) (by omega) (by omega) (by omega) (by omega) (by omega)])) (fun g z => ?_) (fun z => absurd z (by rw [gone]; decide)) ?_ (fun g z => ⟨?_, ?_, ?_, ?_⟩) (fun k hk => ⟨?_, ?_⟩) (fun z => absurd z (by rw [gone]; decide)) (fun _ => ⟨?_, ?_, fun l hl => ⟨?_, ?_⟩⟩) ?_ (fun j x y => ?_), ?_, ?_, fun c hc => ?_, fl.trans bl⟩
  · rw [uo _ (by omega) (by omega) (by omega) (by omega) (by omega) (by omega), bc _ (by omega) (by omega) (by omega)]
  · rw [uo _ (by omega) (by omega) (by omega) (by omega) (by omega) (by omega), bc _ (by omega) (by omega) (by omega)]
  · have z2 : (g == f) = false := by simpa using z
    rw [up_cell (by omega), f11 g, if_neg (by show ¬ (false || g == f) = true; rw [z2]; decide), bc _ (by omega) (by omega) (by omega)]
  · have z2 : (g == f) = false := by simpa using z
    rw [up_cell (by omega), f13 g, if_neg (by show ¬ (false || g == f) = true; rw [z2]; decide), bc _ (by omega) (by omega) (by omega)]
  · rw [uo _ (by omega) (by omega) (by omega) (by omega) (by omega) (by omega), bc _ (by omega) (by omega) (by omega)]
  · rw [uo _ (by omega) (by omega) (by omega) (by omega) (by omega) (by omega), bc _ (by omega) (by omega) (by omega)]
  · rw [up_cell (by omega), f9 k, if_neg (by simp; omega), bc _ (by omega) (by omega) (by omega)]
  · rw [up_cell (by omega), f10 k, if_neg (by simp; omega), bc _ (by omega) (by omega) (by omega)]
  · rw [up_cell (by omega), f11 f, if_pos (by simp)]
  · rw [up_cell (by omega), f13 f, if_pos (by simp)]
  · rw [up_cell (by omega), f9, if_pos (by simp; omega)]
  · rw [up_cell (by omega), f10, if_pos (by simp; omega)]
  · rw [up_same, e0 8, R.2.2.2.2.2.1, off_bit hf]
    refine congrArg nI (mk_cong (fun g hg => ?_))
    by_cases z : g = f
    · rw [z, gone]; simp
    · rw [X.th hf hg z, X.held hf hg z]
      have z2 : (g == f) = false := by simpa using z
      rw [z2]
      simp
  · rw [up_at, if_neg (by omega), e0]
  · rw [uo (q + 1) (by omega) (by omega) (by omega) (by omega) (by omega) (by omega), b8]
  · rw [up_at, if_neg (by omega), e0]
  · rw [up_cell (by omega), fo c (by omega) (by omega) (by omega) (by omega) (by omega), bc c (by omega) (by omega) (by omega)]
end
theorem s_go (x : Int32) : Sp2 (fX3_go x) (fX4_go x) := by
  intro n h m hn ⟨G, R⟩
  have R0 := R.th0
  unfold fX3_go fX4_go
  simp only [bd1]
  rw [e_st]
  rcases R0.flow x with ⟨a, b⟩ | ⟨f, hf, e, ht, a, b⟩
  · rw [a, b, e_bd, e_bd, if_pos rfl, if_pos rfl]
    exact R.no (w := 1) (by omega)
  · obtain ⟨h2, q2, rq, e8, e13, ec, -⟩ := c_letGo R0.1 hf
    have M : MF (th_up m 0 0 0) (th_up (th_up m 0 0 0) 2 (23 + 11 * f) (nI 0)) (gu G (23 + 11 * f) 0) := (MF.rf R0.2.1).up
    have ii := gone_ii R.2.2.1 hf
    have v7 : h2.1 2 7 = nI (mk (gTh (gu G (23 + 11 * f) 0)) 20) := rq.1.2.2.2.2
    rw [a, b, e_bd, e_bd, if_neg (by decide), if_neg (by decide), e, q2, e_bd, v7, bits_mk, m_at, e_bd, e_wr (by omega) (by omega), show fX4_flowMany (th_up (th_up m 0 0 0) 2 (23 + 11 * f) 0) = some (nI (gMany (gu G (23 + 11 * f) 0)), th_up (th_up m 0 0 0) 2 (23 + 11 * f) 0) from m_flowMany M.1 ii.1.1]
    exact ⟨_, _, _, rfl, rfl, _, R0.edit hn (j := 1) (by omega) (by omega) (fun c hc => ec c (by omega)) e13 e8 rq ii (M.mx []) (by simp) (by simp) (by simp)⟩
