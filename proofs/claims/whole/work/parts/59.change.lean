/-! ===== change ===== -/
section
variable {p q f : Nat} {h h2 : th_H} {G G' : GR}
theorem pt_th {w v : Nat} : gTh (gu G (23 + 11 * f + 3 + w) v) f = gTh G f := by unfold gTh; rw [gu_ne (by omega)]
theorem pt_path {w v : Nat} : gPath (gu G (23 + 11 * f + 3 + w) v) f = gPath G f := gu_ne (by omega)
theorem pt_ov {w v l : Nat} : gOv (gu G (23 + 11 * f + 3 + w) v) f l = gOv G f l := by unfold gOv; rw [pt_th, pt_path]
theorem pt_x {w v : Nat} (hw : w < 3) : FLX f G (gu G (23 + 11 * f + 3 + w) v) := fun k hk => gu_ne (by omega)
theorem pt_val (w v : Nat) : gWt (gu G (23 + 11 * f + 3 + w) v) f = (if w = 0 then v else gWt G f) ∧ gLeast (gu G (23 + 11 * f + 3 + w) v) f = (if w = 1 then v else gLeast G f) ∧ gWant (gu G (23 + 11 * f + 3 + w) v) f = (if w = 2 then v else gWant G f) := by
  unfold gWt gLeast gWant gu
  refine ⟨?_, ?_, ?_⟩
  · by_cases z : w = 0
    · rw [if_pos (by omega), if_pos z]
    · rw [if_neg (by omega), if_neg z]
  · by_cases z : w = 1
    · rw [if_pos (by omega), if_pos z]
    · rw [if_neg (by omega), if_neg z]
  · by_cases z : w = 2
    · rw [if_pos (by omega), if_pos z]
    · rw [if_neg (by omega), if_neg z]
theorem c_setPart (R : RP p h G) (hf : f < 20) {w v : Nat} (hw : w < 3) : ∃ h2, fX0_setPart p (nI f) (nI w) (nI v) h = some ((), h2) ∧ RP p h2 (gu G (23 + 11 * f + 3 + w) v) ∧ h2.1 p 8 = h.1 p 8 + 1 ∧ (∀ j, j ≠ 8 → h2.1 p j = h.1 p j) ∧ (∀ c, c ≠ p → (c < p + 5 ∨ p + 7 < c) → h2.1 c = h.1 c) ∧ h2.2 = h.2 := by
  have X : FLX f G (gu G (23 + 11 * f + 3 + w) v) := pt_x hw
  have e : fX0_setPart p (nI f) (nI w) (nI v) h = some ((), th_up (th_up h (p + 5 + w) f (nI v)) p 8 (h.1 p 8 + 1)) := by
    unfold fX0_setPart
    obtain rfl | rfl | rfl : w = 0 ∨ w = 1 ∨ w = 2 := by omega
    · rw [if_pos (show nI 0 = 0 from rfl), e_wr hf (by omega), e_st, up_cell (by omega)]
    · rw [if_neg (show ¬ nI 1 = 0 by decide), if_pos (show nI 1 = 1 from rfl), e_wr hf (by omega), e_st, up_cell (by omega)]
    · rw [if_neg (show ¬ nI 2 = 0 by decide), if_neg (show ¬ nI 2 = 1 by decide), e_wr hf (by omega), e_st, up_cell (by omega)]
  obtain ⟨y1, y2, y3⟩ := pt_val (G := G) (f := f) w v
  rw [e]
  refine ⟨_, rfl, R.flow X hf ?_ (fun l hl => ?_) ?_ (fun g z => ?_) (fun ht => ?_) (fun g z => ⟨?_, ?_, ?_⟩) ?_, up_same, fun j hj => ?_, fun c c0 c1 => ?_, rfl⟩
  · rw [up_cell (by omega), up_cell (by omega)]
  · rw [up_cell (by omega), up_cell (by omega), R.2.1 l hl]
    refine congrArg nI (mk_cong (fun g _ => ?_))
    by_cases z : g = f
    · rw [if_pos z, z, pt_ov]
    · rw [if_neg z]
  · rw [up_cell (by omega), up_cell (by omega), pt_th, pt_path]
    exact R.2.2.1 f hf
  · rw [up_cell (by omega), up_cell (by omega)]
  · rw [pt_th] at ht
    obtain ⟨a, b, c⟩ := R.2.2.2.1 f hf ht
    rw [y1, y2, y3, up_cell (c := p + 5) (by omega), up_cell (c := p + 6) (by omega), up_cell (c := p + 7) (by omega), up_at, up_at, up_at]
    obtain rfl | rfl | rfl : w = 0 ∨ w = 1 ∨ w = 2 := by omega
    · refine ⟨?_, ?_, ?_⟩
      · rw [if_pos (show p + 5 = p + 5 + 0 ∧ f = f from ⟨rfl, rfl⟩), if_pos rfl]
      · rw [if_neg (by omega), if_neg (by omega)]; exact b
      · rw [if_neg (by omega), if_neg (by omega)]; exact c
    · refine ⟨?_, ?_, ?_⟩
      · rw [if_neg (by omega), if_neg (by omega)]; exact a
      · rw [if_pos (show p + 6 = p + 5 + 1 ∧ f = f from ⟨rfl, rfl⟩), if_pos rfl]
      · rw [if_neg (by omega), if_neg (by omega)]; exact c
    · refine ⟨?_, ?_, ?_⟩
      · rw [if_neg (by omega), if_neg (by omega)]; exact a
      · rw [if_neg (by omega), if_neg (by omega)]; exact b
      · rw [if_pos (show p + 7 = p + 5 + 2 ∧ f = f from ⟨rfl, rfl⟩), if_pos rfl]
  · rw [up_cell (by omega), up_at, if_neg (fun y => z y.2)]
  · rw [up_cell (by omega), up_at, if_neg (fun y => z y.2)]
  · rw [up_cell (by omega), up_at, if_neg (fun y => z y.2)]
  · rw [up_at, if_neg (by omega), up_cell (by omega), R.2.2.2.2]
    refine congrArg nI (mk_cong (fun g hg => ?_))
    by_cases z : g = f
    · rw [z, pt_th]
    · rw [X.th hf hg z]
  · rw [up_at, if_neg (by omega), up_cell (by omega)]
  · rw [up_cell c0, up_cell (by omega)]
theorem c_partOf (R : RP p h G) (hf : f < 20) (ht : gTh G f = true) {w : Nat} (hw : w < 3) : fX0_partOf p (nI f) (nI w) h = some (nI (G (23 + 11 * f + 3 + w)), h) := by
  obtain ⟨a, b, c⟩ := R.2.2.2.1 f hf ht
  unfold fX0_partOf
  obtain rfl | rfl | rfl : w = 0 ∨ w = 1 ∨ w = 2 := by omega
  · rw [if_pos (show nI 0 = 0 from rfl), e_rd hf (by omega), a]; rfl
  · rw [if_neg (show ¬ nI 1 = 0 by decide), if_pos (show nI 1 = 1 from rfl), e_rd hf (by omega), b]; rfl
  · rw [if_neg (show ¬ nI 2 = 0 by decide), if_neg (show ¬ nI 2 = 1 by decide), e_rd hf (by omega), c]; rfl
theorem RQ.part (R : RQ q h G) (hf : f < 20) {w v : Nat} (hw : w < 3) (rp : RP (q + 1) h2 (gu G (23 + 11 * f + 3 + w) v)) (ej : ∀ c, c ≠ q + 1 → (c < q + 6 ∨ q + 8 < c) → h2.1 c = h.1 c) : RQ q h2 (gu G (23 + 11 * f + 3 + w) v) := by
  have X : FLX f G (gu G (23 + 11 * f + 3 + w) v) := pt_x hw
  have ne : ∀ k, k ≠ 23 + 11 * f + 3 + w → gu G (23 + 11 * f + 3 + w) v k = G k := fun k hk => gu_ne hk
  refine R.flow X hf rp (fun g z => ?_) (fun ht => ?_) ?_ (fun g z => ⟨?_, ?_, ?_, ?_⟩) (fun k hk => ⟨?_, ?_⟩) (fun ht => ?_) (fun ht => ?_) ?_ (fun j x y => ?_)
  · rw [ej _ (by omega) (by omega)]
  · rw [pt_th] at ht
    unfold gName
    rw [ej _ (by omega) (by omega), ne _ (by omega)]
    exact R.2.1 f hf ht
  · rw [ej _ (by omega) (by omega)]
  · rw [ej _ (by omega) (by omega)]
  · rw [ej _ (by omega) (by omega)]
  · rw [ej _ (by omega) (by omega)]
  · rw [ej _ (by omega) (by omega)]
  · rw [ej _ (by omega) (by omega)]
  · rw [ej _ (by omega) (by omega)]
  · rw [pt_th] at ht
    unfold gTold gWay gWl gWh gAh gBh
    rw [ej (q + 11) (by omega) (by omega), ej (q + 13) (by omega) (by omega), ej (q + 14) (by omega) (by omega), ej (q + 15) (by omega) (by omega), ej (q + 9) (by omega) (by omega), ej (q + 10) (by omega) (by omega), ne _ (by omega), ne _ (by omega), ne _ (by omega), ne _ (by omega)]
    obtain ⟨d1, d2, d3, d4⟩ := R.2.2.2.1 f hf ht
    refine ⟨d1, d2, d3, fun l hl => ?_⟩
    rw [ne _ (by omega), ne _ (by omega)]
    exact d4 l hl
  · rw [pt_th] at ht
    rw [ej (q + 11) (by omega) (by omega), ej (q + 13) (by omega) (by omega), ej (q + 9) (by omega) (by omega), ej (q + 10) (by omega) (by omega)]
    exact R.2.2.2.2.1 f hf ht
  · rw [ej q (by omega) (by omega), R.2.2.2.2.2.1]
    refine congrArg nI (mk_cong (fun g hg => ?_))
    unfold gHeld
    by_cases z : g = f
    · rw [z, pt_th, ne _ (by omega)]
    · rw [X.th hf hg z, ne _ (by omega)]
  · rw [ej q (by omega) (by omega)]
theorem part_iq (I : II G) (hf : f < 20) {w v : Nat} (hw : w < 3) (hv : (if w = 0 then 0 < v ∧ v ≤ 9 else v ≤ 1000000)) (h1 : w = 1 → v ≤ gWant G f) (h2 : w = 2 → gLeast G f ≤ v) (ht : gTh G f = true) : IQ (gu G (23 + 11 * f + 3 + w) v) := by
  obtain ⟨y1, y2, y3⟩ := pt_val (G := G) (f := f) w v
  obtain ⟨a1, a2, a3, a4, a5, a6⟩ := (I.1.1.2 f hf).2 ht
  refine I.1.1.flow (pt_x hw) hf (by rw [gu_ne (by omega)]; exact (I.1.1.2 f hf).1) (fun _ => ?_)
  rw [pt_path, y1, y2, y3]
  obtain rfl | rfl | rfl : w = 0 ∨ w = 1 ∨ w = 2 := by omega
  · rw [if_pos rfl] at hv
    rw [if_pos rfl, if_neg (by omega), if_neg (by omega)]
    omega
  · rw [if_neg (by omega)] at hv
    have := h1 rfl
    rw [if_neg (by omega), if_pos rfl, if_neg (by omega)]
    omega
  · rw [if_neg (by omega)] at hv
    have := h2 rfl
    rw [if_neg (by omega), if_neg (by omega), if_pos rfl]
    omega
theorem part_ii (I : II G) (hf : f < 20) {w v : Nat} (hw : w < 3) (hv : v ≤ 1000000) (IQ' : IQ (gu G (23 + 11 * f + 3 + w) v)) (B' : IB (gu G (23 + 11 * f + 3 + w) v)) : II (gu G (23 + 11 * f + 3 + w) v) := by
  have ne : ∀ k, k ≠ 23 + 11 * f + 3 + w → gu G (23 + 11 * f + 3 + w) v k = G k := fun k hk => gu_ne hk
  refine I.flow (pt_x hw) hf (IQ'.2 f hf).1 B' (fun k hk => ?_) (IQ'.2 f hf).2 (fun ht g hg z tg => ?_) (fun ht => ?_) (fun ht l hl => ?_)
  · unfold gu
    by_cases z : k = 23 + 11 * f + 3 + w
    · rw [if_pos z]; omega
    · rw [if_neg z]; exact I.1.2.2.2.2 k (by omega) (by omega)
  · rw [pt_th] at ht
    unfold gName
    rw [ne _ (by omega)]
    intro e
    exact z (I.2.1 g f hg hf tg ht e)
  · rw [pt_th] at ht
    rw [pt_path]
    unfold gName gHeld gTold gWay gWl gWh gAh gBh
    rw [ne _ (by omega), ne _ (by omega), ne _ (by omega), ne _ (by omega), ne _ (by omega), ne _ (by omega)]
    obtain ⟨j1, j2, j3, j4, j5, j6⟩ := I.2.2 f hf ht
    refine ⟨j1, j2, j3, j4, j5, fun l hl hb => ?_⟩
    rw [ne _ (by omega), ne _ (by omega)]
    exact j6 l hl hb
  · rw [pt_th] at ht
    unfold gAh gBh
    rw [ne _ (by omega), ne _ (by omega)]
    exact I.1.2.2.1 f hf ht l hl
theorem ib_al (I : IQ G) : al (fun l => decide (gBnd G l ≤ gCap G l)) 10 = true ↔ IB G := by
  rw [al_iff]
  exact ⟨fun z l hl => by simpa using z l hl, fun z l hl => by simpa using z l hl⟩
theorem add_sub' (a b c : Nat) (h : c ≤ a + b) : nI a + (nI b - nI c) = nI (a + b - c) := by
  rw [Int32.sub_eq_add_neg, ← Int32.add_assoc, nI_add, ← Int32.sub_eq_add_neg, pk_sub h]
theorem ctb_le (l : Nat) (hf : f < 20) : ctb G f l ≤ gBnd G l := by
  have := fb_sm_part (fun g => ctb G g l) hf
  have e : gBnd G l = fb_sm (fun g => ctb G g l) 20 := rfl
  rw [e]
  omega
theorem room_least (I : II G) (hf : f < 20) (ht : gTh G f = true) {v : Nat} (hv : v ≤ 1000000) : al (fun l => !(gPath G f).testBit l || !decide (nI (gCap G l) < nI (gBnd G l) + (nI v - nI (gLeast G f)))) 10 = al (fun l => decide (gBnd (gu G (23 + 11 * f + 3 + 1) v) l ≤ gCap (gu G (23 + 11 * f + 3 + 1) v) l)) 10 := by
  refine al_cong (fun l hl => ?_)
  have X : FLX f G (gu G (23 + 11 * f + 3 + 1) v) := pt_x (by omega)
  have hb := X.bnd hf l
  have hc : gCap G l ≤ 1000000 := I.1.1.1 l hl
  have hB := I.1.2.1 l hl
  have hl2 := ctb_le (G := G) l hf
  obtain ⟨-, y2, -⟩ := pt_val (G := G) (f := f) 1 v
  rw [if_pos rfl] at y2
  rw [X.cap hl]
  unfold ctb at hb hl2
  rw [pt_ov, y2] at hb
  by_cases c : (gPath G f).testBit l = true
  · have ho := ov_of ht c
    rw [if_pos ho, if_pos ho] at hb
    rw [if_pos ho] at hl2
    have hB' : gBnd (gu G (23 + 11 * f + 3 + 1) v) l = gBnd G l + v - gLeast G f := by omega
    rw [c, Bool.not_true, Bool.false_or, add_sub' _ _ _ (by omega), hB', Bool.eq_iff_iff, Bool.not_eq_true', decide_eq_false_iff_not, decide_eq_true_eq, e_lt (by omega) (by omega)]
    omega
  · have c2 : (gPath G f).testBit l = false := by simpa using c
    have ho : ¬ gOv G f l = true := by unfold gOv; rw [c2, Bool.and_false]; decide
    rw [if_neg ho, if_neg ho] at hb
    rw [c2, Bool.not_false, Bool.true_or]
    exact (decide_eq_true (by omega)).symm
end
section
variable {n f : Nat} {h m : th_H} {G : GR}
theorem change_tail (R : RelG n G h m) (hn : n < 512) (hf : f < 20) (ht : gTh G f = true) {w v : Nat} (hw : w < 3) (hv : (if w = 0 then 0 < v ∧ v ≤ 9 else v ≤ 1000000)) (h1 : w = 1 → v ≤ gWant G f) (h2 : w = 2 → gLeast G f ≤ v) : ∃ r h2 m2, fX3_change_c73 (nI f) (nI w) (nI v) h = some (r, h2) ∧ fX4_change_c115 (nI w) (nI v) (nI (23 + 11 * f)) (th_up m 0 0 0) = some (r, m2) ∧ Rel (n + 1) h2 m2 := by
  have R0 := R.th0
  have I := R.2.2.1
  have hv2 : v ≤ 1000000 := by
    by_cases z : w = 0
    · rw [if_pos z] at hv; omega
    · rw [if_neg z] at hv; exact hv
  have IQ' := part_iq I hf hw hv h1 h2 ht
  obtain ⟨a1, a2, a3, a4, a5, a6⟩ := (R.iq.2 f hf).2 ht
  have hp : G (23 + 11 * f + 3 + w) ≤ 1000000 := by
    unfold gWt at a4
    unfold gLeast gWant at a5
    unfold gWant at a6
    obtain rfl | rfl | rfl : w = 0 ∨ w = 1 ∨ w = 2 := by omega
    · have : G (23 + 11 * f + 3) ≤ 9 := a4
      show G (23 + 11 * f + 3) ≤ _
      omega
    · show G (23 + 11 * f + 4) ≤ _
      omega
    · show G (23 + 11 * f + 5) ≤ _
      omega
  have X : FLX f G (gu G (23 + 11 * f + 3 + w) v) := pt_x hw
  have M : MF (th_up m 0 0 0) (th_up (th_up m 0 0 0) 2 (23 + 11 * f + 3 + w) (nI v)) (gu G (23 + 11 * f + 3 + w) v) := (MF.rf R0.2.1).up
  obtain ⟨h3, q3, rp3, e8, ej, ec, -⟩ := c_setPart (v := v) R.rp hf hw
  unfold fX3_change_c73 fX4_change_c115
  simp only [bd1]
  rw [c_partOf R.rp hf ht hw, e_bd, e_addl, nI_add, m_row R0.2.1 (by omega), ic (e_eq (show G (23 + 11 * f + 3 + w) < 2147483648 by omega) (show v < 2147483648 by omega)), ic (e_eq (show G (23 + 11 * f + 3 + w) < 2147483648 by omega) (show v < 2147483648 by omega))]
  by_cases c : G (23 + 11 * f + 3 + w) = v
  · rw [if_pos c, if_pos c]
    exact R.no (w := 2) (by omega)
  · rw [if_neg c, if_neg c, e_wr (by omega) (by omega), m_isBound M.1 IQ', e_bd, ic e_c0, e_wr (by omega) (by omega)]
    have ok : IB (gu G (23 + 11 * f + 3 + w) v) → ∃ r h2 m2, (th_bd (fX0_setPart 2 (nI f) (nI w) (nI v) h) fun _u h9 => some (nI (G (23 + 11 * f + 3 + w)), h9)) = some (r, h2) ∧ some (nI (G (23 + 11 * f + 3 + w)), th_up (th_up m 0 0 0) 2 (23 + 11 * f + 3 + w) (nI v)) = some (r, m2) ∧ Rel (n + 1) h2 m2 := by
      intro B'
      rw [q3, e_bd]
      have ii := part_ii I hf hw hv2 IQ' B'
      have rq : RQ 1 h3 (gu G (23 + 11 * f + 3 + w) v) := R.1.part hf hw rp3 (fun c c1 c2 => ec c c1 (by omega))
      exact ⟨_, _, _, rfl, rfl, _, R0.edit hn (j := 1) (by omega) (by omega) (fun c hc => ec c (by omega) (by omega)) (by rw [ec 1 (by omega) (by omega)]) e8 rq ii (M.mx []) (by simp) (by simp) (by simp)⟩
    have no : ∃ r h2 m2, fX3_refuse 4 h = some (r, h2) ∧ fX4_refuse 4 (th_up (th_up (th_up m 0 0 0) 2 (23 + 11 * f + 3 + w) (nI v)) 2 (23 + 11 * f + 3 + w) (nI (G (23 + 11 * f + 3 + w)))) = some (r, m2) ∧ Rel (n + 1) h2 m2 := by
      rw [up_up, up_self (R0.2.1 _ (by omega))]
      exact R.no (w := 4) (by omega)
    by_cases w1 : w = 1
    · subst w1
      have e6 : h.1 6 f = nI (gPath G f) := by
        have := R.rp.2.2.1 f hf
        rw [if_pos ht] at this
        exact this
      have eL : G (23 + 11 * f + 3 + 1) = gLeast G f := rfl
      rw [if_pos (show nI 1 = 1 from rfl), e_rd hf (by omega), e6, eL, c_hasRoom R.rp R.iq a2, e_bd, ic (bI_0 _), room_least I hf ht hv2]
      rw [eL] at ok no
      by_cases b : al (fun l => decide (gBnd (gu G (23 + 11 * f + 3 + 1) v) l ≤ gCap (gu G (23 + 11 * f + 3 + 1) v) l)) 10 = true
      · rw [if_neg (by rw [b]; decide), if_neg (not_not_intro b)]
        exact ok ((ib_al IQ').mp b)
      · rw [if_pos (by simpa using b), if_pos b]
        exact no
    · have B' : IB (gu G (23 + 11 * f + 3 + w) v) := X.ib hf I.1.2.1 (fun l _ => by
        obtain ⟨-, y2, -⟩ := pt_val (G := G) (f := f) w v
        rw [if_neg w1] at y2
        unfold ctb
        rw [pt_ov, y2]
        exact Nat.le_refl _)
      rw [if_neg (show ¬ nI w = 1 by rw [show (1 : Int32) = nI 1 from rfl, e_eq (by omega) (by omega)]; exact w1), if_neg (not_not_intro ((ib_al IQ').mpr B'))]
      exact ok B'
end
theorem s_change (x y z : Int32) : Sp2 (fX3_change x y z) (fX4_change x y z) := by
  intro n h m hn ⟨G, R⟩
  have R0 := R.th0
  unfold fX3_change fX4_change
  simp only [bd1]
  rw [e_st, m_inl y 0 2 (by decide) (by decide), e_bd, ic e_c0]
  by_cases d : 0 ≤ y.toInt ∧ y.toInt ≤ 2
  · rw [if_neg (not_not_intro d)]
    obtain ⟨w, hw, e⟩ := rng (x := y) (n := 3) (by omega) (by omega)
    subst e
    have key : ∀ a b : Nat, a < 2147483648 → b < 2147483648 → (∀ v, a ≤ v → v ≤ b → (if w = 0 then 0 < v ∧ v ≤ 9 else v ≤ 1000000)) → b ≤ 1000000 → fX3_canBe (nI w) z h = some (if (a : Int) ≤ z.toInt ∧ z.toInt ≤ b then 1 else 0, h) → ∃ r h2 m2, (th_bd (fX3_canBe (nI w) z h) fun u1 h1 => if u1 = 0 then fX3_refuse 0 h1 else th_bd (fX0_has 2 x h1) fun u4 h4 => if u4 = 0 then fX3_refuse 1 h4 else if nI w = 1 then th_rd h4 9 20 x fun v8 => if v8 < z then fX3_refuse 0 h4 else fX3_change_c49 x (nI w) z h4 else fX3_change_c49 x (nI w) z h4) = some (r, h2) ∧ fX4_change_c41 x (nI w) z (Int32.toInt64 z) (lN a) (lN b) (th_up m 0 0 0) = some (r, m2) ∧ Rel (n + 1) h2 m2 := by
      intro a b ha hb hab hb2 hcan
      unfold fX4_change_c41
      simp only [bd1]
      rw [hcan, e_bd, m_in z a b ha hb, e_bd, ic e_c0, ic e_c0]
      by_cases c : (a : Int) ≤ z.toInt ∧ z.toInt ≤ b
      · rw [if_neg (not_not_intro c), if_neg (not_not_intro c)]
        obtain ⟨v, hv, e⟩ := rng (x := z) (n := b + 1) (by omega) (by omega)
        subst e
        rw [nI_toInt (by omega)] at c
        rcases R0.flow x with ⟨a1, b1⟩ | ⟨f, hf, e, ht, a1, b1⟩
        · rw [a1, b1, e_bd, e_bd, if_pos rfl, if_pos rfl]
          exact R.no (w := 1) (by omega)
        · rw [a1, b1, e_bd, e_bd, if_neg (show ¬ (1 : Int32) = 0 by decide), if_neg (show ¬ (1 : Int32) = 0 by decide), e, m_at, e_bd, e_addl, m_row R0.2.1 (by omega)]
          obtain ⟨i1, i2, i3, i4, i5, i6⟩ := (R.iq.2 f hf).2 ht
          obtain ⟨v7, v8, v9⟩ : h.1 7 f = nI (gWt G f) ∧ h.1 8 f = nI (gLeast G f) ∧ h.1 9 f = nI (gWant G f) := R.rp.2.2.2.1 f hf ht
          have g5 : G (23 + 11 * f + 5) = gWant G f := rfl
          have g4 : G (23 + 11 * f + 4) = gLeast G f := rfl
          have hvv := hab v (by omega) (by omega)
          rw [e_rd hf (by omega), v9, g5]
          unfold fX3_change_c49 fX4_change_c91
          simp only [bd1]
          rw [e_rd hf (by omega), v8, e_addl, m_row R0.2.1 (by omega), g4, ic (e_lt (show gWant G f < 2147483648 by omega) (show v < 2147483648 by omega)), ic (e_lt (show v < 2147483648 by omega) (show gLeast G f < 2147483648 by omega)), ic (e_lt (show gWant G f < 2147483648 by omega) (show v < 2147483648 by omega)), ic (e_lt (show v < 2147483648 by omega) (show gLeast G f < 2147483648 by omega))]
          obtain rfl | rfl | rfl : w = 0 ∨ w = 1 ∨ w = 2 := by omega
          · rw [if_neg (show ¬ nI 0 = 1 by decide), if_neg (show ¬ nI 0 = 2 by decide), if_neg (show ¬ nI 0 = 1 by decide), if_neg (show ¬ nI 0 = 2 by decide)]
            exact change_tail R hn hf ht (by omega) hvv (fun z => by omega) (fun z => by omega)
          · rw [if_pos (show nI 1 = 1 from rfl), if_neg (show ¬ nI 1 = 2 by decide), if_pos (show nI 1 = 1 from rfl), if_neg (show ¬ nI 1 = 2 by decide)]
            by_cases k : gWant G f < v
            · rw [if_pos k, if_pos k]
              exact R.no (w := 0) (by omega)
            · rw [if_neg k, if_neg k]
              exact change_tail R hn hf ht (by omega) hvv (fun _ => by omega) (fun z => by omega)
          · rw [if_neg (show ¬ nI 2 = 1 by decide), if_pos (show nI 2 = 2 from rfl), if_neg (show ¬ nI 2 = 1 by decide), if_pos (show nI 2 = 2 from rfl)]
            by_cases k : v < gLeast G f
            · rw [if_pos k, if_pos k]
              exact R.no (w := 0) (by omega)
            · rw [if_neg k, if_neg k]
              exact change_tail R hn hf ht (by omega) hvv (fun z => by omega) (fun _ => by omega)
      · rw [if_pos c, if_pos c]
        exact R.no (w := 0) (by omega)
    unfold fX4_change_c28
    obtain rfl | rfl | rfl : w = 0 ∨ w = 1 ∨ w = 2 := by omega
    · rw [if_pos (show nI 0 = 0 from rfl), if_pos (show nI 0 = 0 from rfl)]
      refine key 1 9 (by omega) (by omega) (fun v a b => by rw [if_pos rfl]; omega) (by omega) ?_
      unfold fX3_canBe
      rw [if_pos (show nI 0 = 0 from rfl), c_isWeight, e_bd, e_gbc]
      rfl
    · rw [if_neg (show ¬ nI 1 = 0 by decide), if_neg (show ¬ nI 1 = 0 by decide)]
      refine key 0 1000000 (by omega) (by omega) (fun v a b => by rw [if_neg (by omega)]; exact b) (by omega) ?_
      unfold fX3_canBe fX3_canBe_c19
      rw [if_neg (show ¬ nI 1 = 0 by decide), if_pos (show nI 1 = 1 from rfl), c_isAmount, e_bd, ic e_c0]
      by_cases c : (0 : Int) ≤ z.toInt ∧ z.toInt ≤ 1000000
      · rw [if_neg (not_not_intro c), if_pos (by simpa using c)]
      · rw [if_pos c, if_neg (by simpa using c)]
    · rw [if_neg (show ¬ nI 2 = 0 by decide), if_neg (show ¬ nI 2 = 0 by decide)]
      refine key 0 1000000 (by omega) (by omega) (fun v a b => by rw [if_neg (by omega)]; exact b) (by omega) ?_
      unfold fX3_canBe fX3_canBe_c19
      rw [if_neg (show ¬ nI 2 = 0 by decide), if_neg (show ¬ nI 2 = 1 by decide), if_pos (show nI 2 = 2 from rfl), c_isAmount, e_bd, ic e_c0]
      by_cases c : (0 : Int) ≤ z.toInt ∧ z.toInt ≤ 1000000
      · rw [if_neg (not_not_intro c), if_pos (by simpa using c)]
      · rw [if_pos c, if_neg (by simpa using c)]
  · have ny : ∀ k : Int32, 0 ≤ k.toInt ∧ k.toInt ≤ 2 → ¬ y = k := fun k hk e => d (by rw [e]; exact hk)
    have hcan : fX3_canBe y z h = some (0, h) := by
      unfold fX3_canBe
      rw [if_neg (ny 0 (by decide)), if_neg (ny 1 (by decide)), if_neg (ny 2 (by decide))]
    rw [hcan, e_bd, if_pos rfl, if_pos d]
    exact R.no (w := 0) (by omega)
