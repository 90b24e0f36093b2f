/-! ===== room ===== -/
def gRm (G : GR) (m : Nat) : Nat → Nat
  | 0 => 1000000
  | l + 1 => if m.testBit l = true then min (gRm G m l) (gCap G l - gBnd G l) else gRm G m l
section
variable {h : th_H} {G : GR} {m : Nat}
theorem gRm_le : ∀ n, gRm G m n ≤ 1000000 := by
  intro n
  induction n with
  | zero => exact Nat.le_refl _
  | succ n ih =>
    rw [gRm]
    by_cases c : m.testBit n = true
    · rw [if_pos c]; exact Nat.le_trans (Nat.min_le_left _ _) ih
    · rw [if_neg c]; exact ih
theorem m_freeNumber (R : RM h G) (I : IQ G) : fX4_freeNumber h = some (nI (gFree G), h) := by
  unfold fX4_freeNumber gFree
  rw [show fX4_freeNumber_c2 1000 0 h = fX4_freeNumber_c2 1000 (nI 0) h from rfl, for_find 20 (fun f => !gTh G f) (fun fu i => fX4_freeNumber_c2 fu (nI i) h) (fun i => some (nI i, h)) (some (nI 20, h)) ?_ ?_ ?_ (show 20 < 1000 by omega)]
  · have := fa_first_le (fun f => !gTh G f) 20
    by_cases c : fa_first (fun f => !gTh G f) 20 < 20
    · rw [if_pos c]
    · rw [if_neg c, show fa_first (fun f => !gTh G f) 20 = 20 by omega]
  · intro fu i hi c
    have c2 : gTh G i = true := by simpa using c
    rw [fX4_freeNumber_c2, if_pos (show nI i < (20 : Int32) from nI_lt (a := i) (b := 20) hi (by omega)), m_at, e_bd, m_row R (by omega), ic (e_eql (n := 1) (I.small hi) (by decide)), ic (gTh_iff i), if_pos c2, nI_1]
  · intro fu i hi c
    have c2 : ¬ gTh G i = true := by simpa using c
    rw [fX4_freeNumber_c2, if_pos (show nI i < (20 : Int32) from nI_lt (a := i) (b := 20) hi (by omega)), m_at, e_bd, m_row R (by omega), ic (e_eql (n := 1) (I.small hi) (by decide)), ic (gTh_iff i), if_neg c2]
  · intro fu
    rw [fX4_freeNumber_c2, if_neg (by decide)]
theorem m_roomOf (R : RM h G) (I : IQ G) (B : IB G) (hm : m < 1024) : fX4_roomOf (nI m) h = some (nI (gRm G m 10), h) := by
  unfold fX4_roomOf
  refine for_up 10 (fun fu i => fX4_roomOf_c5 fu (nI m) (nI (gRm G m i)) (nI i) h) _ ?_ ?_ (by omega)
  · intro fu i hi
    have hc : gCap G i ≤ 1000000 := I.1 i hi
    have hB : gBnd G i ≤ gCap G i := B i hi
    have hr := gRm_le (G := G) (m := m) i
    have er : gRm G m (i + 1) = if m.testBit i = true then min (gRm G m i) (gCap G i - gBnd G i) else gRm G m i := rfl
    rw [fX4_roomOf_c5, if_pos (show nI i < (10 : Int32) from nI_lt (a := i) (b := 10) hi (by omega)), e_bit (by omega) (by omega), ic e_c1, er, nI_1]
    by_cases c : m.testBit i = true
    · rw [if_pos c, if_pos c, e_ladd, m_row R (by omega), m_bound R I hi, e_bd]
      show th_bd (fX4_lesser (nI (gRm G m i)) (nI (gCap G i) - nI (gBnd G i)) h) _ = _
      rw [pk_sub hB, m_lesser (by omega) (by omega), e_bd]
    · rw [if_neg c, if_neg c]
  · intro fu
    rw [fX4_roomOf_c5, if_neg (by decide)]
theorem c_roomFor (R : RP 2 h G) (I : IQ G) (B : IB G) (hm : m < 1024) : fX3_roomFor_c26 1000 (nI m) 1000000 0 h = some (nI (gRm G m 10), h) := by
  refine for_up 10 (fun fu i => fX3_roomFor_c26 fu (nI m) (nI (gRm G m i)) (nI i) h) _ ?_ ?_ (by omega)
  · intro fu i hi
    have hc : gCap G i ≤ 1000000 := I.1 i hi
    have hB : gBnd G i ≤ gCap G i := B i hi
    have hr := gRm_le (G := G) (m := m) i
    have er : gRm G m (i + 1) = if m.testBit i = true then min (gRm G m i) (gCap G i - gBnd G i) else gRm G m i := rfl
    have ec : h.1 3 i = nI (gCap G i) := R.1 i hi
    rw [fX3_roomFor_c26, if_pos (show nI i < (10 : Int32) from nI_lt (a := i) (b := 10) hi (by omega)), e_bit (by omega) (by omega), ic e_c0, er, nI_1]
    by_cases c : m.testBit i = true
    · rw [if_neg (not_not_intro c), if_pos c, e_rd hi (by omega), ec, c_boundOf R I hi, e_bd, pk_sub hB, e_mn (by omega) (by omega)]
    · rw [if_pos c, if_neg c]
  · intro fu
    rw [fX3_roomFor_c26, if_neg (by decide)]
end
theorem s_roomFor (x : Int32) : Sp2 (fX3_roomFor x) (fX4_roomFor x) := by
  intro n h m hn ⟨G, R⟩
  have R0 := R.th0
  have I := R.iq
  have B := R.2.2.1.1.2.1
  unfold fX3_roomFor fX4_roomFor
  rw [c_isPath, e_bd, e_st, m_areLinks, e_bd, ic e_c0, ic e_c0]
  by_cases c : 1 ≤ x.toInt ∧ x.toInt ≤ 1023
  · rw [if_neg (not_not_intro c), if_neg (not_not_intro c)]
    obtain ⟨l, hl, e⟩ := rng (x := x) (n := 1024) (by omega) (by omega)
    subst e
    have hg : gFree G ≤ 20 := fa_first_le _ _
    rw [c_freeNumber R.rp, e_bd, m_freeNumber R0.2.1 I, e_bd, ic (e_ltl (n := 20) (show gFree G < 2147483648 by omega) (by decide)), c_roomFor R.rp I B hl, m_roomOf R0.2.1 I B hl, e_bd]
    by_cases d : gFree G < 20
    · rw [if_pos d, if_neg (by rw [e_ne1 (by omega)]; exact id), if_pos d]
      exact ⟨_, _, _, rfl, rfl, G, R0.inc⟩
    · rw [if_neg d, if_pos rfl, if_neg d]
      exact ⟨_, _, _, rfl, rfl, G, R0.inc⟩
  · rw [if_pos c, if_pos c]
    exact ⟨_, _, _, rfl, rfl, G, R0.inc⟩
