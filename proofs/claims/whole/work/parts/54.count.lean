/-! ===== marks, and count ===== -/
theorem sm_swap (f : Nat → Nat → Nat) (n : Nat) : ∀ m, fb_sm (fun i => fb_sm (fun j => f i j) n) m = fb_sm (fun j => fb_sm (fun i => f i j) m) n := by
  intro m
  induction m with
  | zero =>
    show 0 = fb_sm (fun _ => 0) n
    rw [fb_sm_const, Nat.mul_zero]
  | succ m ih =>
    rw [fb_sm_succ, ih, ← fb_sm_add]
    exact fb_sm_cong (fun j _ => rfl)
theorem ct_sm (p : Nat → Bool) : ∀ n, fb_ct p n = fb_sm (fun i => if p i = true then 1 else 0) n := by
  intro n
  induction n with
  | zero => rfl
  | succ n ih => rw [fb_ct_succ, fb_sm_succ, ih]
def gMk (G : GR) (f l : Nat) : Bool := gOv G f l && decide (gEls G f l < gAdv G l)
def gMks (G : GR) : Nat := fb_sm (fun f => fb_ct (gMk G f) 10) 20
theorem gMks_swap (G : GR) : fb_sm (fun l => fb_ct (fun f => gMk G f l) 20) 10 = gMks G := by
  unfold gMks
  simp only [ct_sm]
  exact sm_swap (fun l f => if gMk G f l = true then 1 else 0) 20 10
section
variable {q : Nat} {h : th_H} {G : GR}
theorem els_le (E : IE G) {f l : Nat} (hf : f < 20) (hl : l < 10) (ht : gTh G f = true) : gEls G f l ≤ 1000000 := Nat.le_trans (Nat.min_le_left _ _) (E f hf ht l hl).1
theorem c_isMarked (R : RQ q h G) (A : IA G) (O : OC q h G) {f l : Nat} (hf : f < 20) (hl : l < 10) (ht : gTh G f = true) : ∃ h2, fX1_isMarked q (nI f) (nI l) h = some (if gEls G f l < gAdv G l then 1 else 0, h2) ∧ PS q h h2 ∧ OC q h2 G := by
  obtain ⟨h2, q2, P, O2⟩ := c_offerOf R A O hl
  have hE := els_le A.2.2.1 hf hl ht
  have hA := gAdv_le G l
  refine ⟨h2, ?_, P, O2⟩
  unfold fX1_isMarked
  rw [c_els R A.2.2.1 hf hl ht, e_bd, q2, e_bd, ic (e_lt (show gEls G f l < 2147483648 by omega) (show gAdv G l < 2147483648 by omega))]
  split <;> rfl
theorem c_markCount_c12 (R : RQ q h G) (A : IA G) (K : Int32 → Int32 → th_H → Option (Int32 × th_H)) {f : Nat} (hf : f < 20) (s : Nat) : ∀ d l fu h1, l + d = 10 → d < fu → PS q h h1 → OC q h1 G → ∃ h2, fX1_markCount_c12 q K fu (nI (s + fb_ct (gMk G f) l)) (nI f) (nI l) h1 = K (nI (s + fb_ct (gMk G f) 10)) (nI (f + 1)) h2 ∧ PS q h h2 ∧ OC q h2 G := by
  intro d
  induction d with
  | zero =>
    intro l fu h1 hl hfu P O
    obtain ⟨fu, rfl⟩ : ∃ z, fu = z + 1 := ⟨fu - 1, by omega⟩
    obtain rfl : l = 10 := by omega
    rw [fX1_markCount_c12, if_neg (by decide), nI_1]
    exact ⟨h1, rfl, P, O⟩
  | succ d ih =>
    intro l fu h1 hl hfu P O
    obtain ⟨fu, rfl⟩ : ∃ z, fu = z + 1 := ⟨fu - 1, by omega⟩
    have hl2 : l < 10 := by omega
    have R1 := P.rq R
    have eS : fb_ct (gMk G f) (l + 1) = fb_ct (gMk G f) l + (if gMk G f l = true then 1 else 0) := fb_ct_succ _ _
    have e0 : ∀ a : Nat, nI a + 0 = nI a := fun a => by rw [show (0 : Int32) = nI 0 from rfl, nI_add, Nat.add_zero]
    rw [fX1_markCount_c12, if_pos (show nI l < (10 : Int32) from nI_lt (a := l) (b := 10) hl2 (by omega)), c_has R1.1 hf, e_bd, ic e_c0, e0, nI_1, nI_1]
    have step : ∀ h2 : th_H, PS q h h2 → OC q h2 G → ∀ b : Bool, gMk G f l = b → ∃ h3, fX1_markCount_c12 q K fu (nI (s + fb_ct (gMk G f) l + (if b = true then 1 else 0))) (nI f) (nI (l + 1)) h2 = K (nI (s + fb_ct (gMk G f) 10)) (nI (f + 1)) h3 ∧ PS q h h3 ∧ OC q h3 G := by
      intro h2 P2 O2 b hb
      have := ih (l + 1) fu h2 (by omega) (by omega) P2 O2
      rw [eS, hb, ← Nat.add_assoc] at this
      exact this
    by_cases c : gTh G f = true
    · rw [if_neg (not_not_intro c), c_goesOver R1.1 A.1 hf hl2, e_bd, ic e_c0]
      by_cases o : gOv G f l = true
      · obtain ⟨h2, q2, P2, O2⟩ := c_isMarked R1 A O hf hl2 c
        rw [if_neg (not_not_intro o), q2, e_bd, ic e_c0]
        by_cases z : gEls G f l < gAdv G l
        · rw [if_neg (not_not_intro z)]
          exact step h2 (P.tr P2) O2 true (by unfold gMk; rw [o, decide_eq_true z]; rfl)
        · rw [if_pos z]
          exact step h2 (P.tr P2) O2 false (by unfold gMk; rw [decide_eq_false z, Bool.and_false])
      · rw [if_pos o]
        exact step h1 P O false (by unfold gMk; rw [show gOv G f l = false by simpa using o, Bool.false_and])
    · rw [if_pos c]
      exact step h1 P O false (by unfold gMk gOv; rw [show gTh G f = false by simpa using c, Bool.false_and, Bool.false_and])
theorem c_markCount (R : RQ q h G) (A : IA G) (O : OC q h G) : ∃ h2, fX1_markCount q h = some (nI (gMks G), h2) ∧ PS q h h2 ∧ OC q h2 G := by
  have key : ∀ d f fu h1, f + d = 20 → d < fu → PS q h h1 → OC q h1 G → ∃ h2, fX1_markCount_c4 q fu (nI (fb_sm (fun f => fb_ct (gMk G f) 10) f)) (nI f) h1 = some (nI (gMks G), h2) ∧ PS q h h2 ∧ OC q h2 G := by
    intro d
    induction d with
    | zero =>
      intro f fu h1 hf hfu P O
      obtain ⟨fu, rfl⟩ : ∃ z, fu = z + 1 := ⟨fu - 1, by omega⟩
      obtain rfl : f = 20 := by omega
      rw [fX1_markCount_c4, if_neg (by decide)]
      exact ⟨h1, rfl, P, O⟩
    | succ d ih =>
      intro f fu h1 hf hfu P O
      obtain ⟨fu, rfl⟩ : ∃ z, fu = z + 1 := ⟨fu - 1, by omega⟩
      rw [fX1_markCount_c4, if_pos (show nI f < (20 : Int32) from nI_lt (a := f) (b := 20) (by omega) (by omega))]
      obtain ⟨h2, q2, P2, O2⟩ := c_markCount_c12 R A (fX1_markCount_c4 q fu) (show f < 20 by omega) (fb_sm (fun f => fb_ct (gMk G f) 10) f) 10 0 1000 h1 (by omega) (by omega) P O
      have q3 : fX1_markCount_c12 q (fX1_markCount_c4 q fu) 1000 (nI (fb_sm (fun f => fb_ct (gMk G f) 10) f)) (nI f) 0 h1 = fX1_markCount_c4 q fu (nI (fb_sm (fun f => fb_ct (gMk G f) 10) (f + 1))) (nI (f + 1)) h2 := q2
      rw [q3]
      exact ih (f + 1) fu h2 (by omega) (by omega) P2 O2
  unfold fX1_markCount
  exact key 20 0 1000 h (by omega) (by omega) PS.rf O
theorem m_marksAll_c19 (R : RM h G) (A : IA G) (K : Int32 → Int32 → th_H → Option (Int32 × th_H)) {l : Nat} (hl : l < 10) (s : Nat) : fX4_marksAll_c19 K 1000 (nI s) (nI l) (nI (gAdv G l)) 0 h = K (nI (s + fb_ct (fun f => gMk G f l) 20)) (nI (l + 1)) h := by
  have hA := gAdv_le G l
  refine for_up 20 (fun fu i => fX4_marksAll_c19 K fu (nI (s + fb_ct (fun f => gMk G f l) i)) (nI l) (nI (gAdv G l)) (nI i) h) _ ?_ ?_ (by omega)
  · intro fu i hi
    have e0 : ∀ a : Nat, nI a + 0 = nI a := fun a => by rw [show (0 : Int32) = nI 0 from rfl, nI_add, Nat.add_zero]
    rw [fX4_marksAll_c19, if_pos (show nI i < (20 : Int32) from nI_lt (a := i) (b := 20) hi (by omega)), m_goesOver R A.1 hi hl, e_bd, ic e_c0, fb_ct_succ, e0, nI_1, nI_1]
    by_cases o : gOv G i l = true
    · have ht := (A.1.ov hi o).1
      have hE := els_le A.2.2.1 hi hl ht
      obtain ⟨a, b⟩ := A.2.2.1 i hi ht l hl
      rw [if_neg (not_not_intro o), m_elsewhere R hi hl (by omega) (by omega), e_bd, ic (e_lt (show gEls G i l < 2147483648 by omega) (show gAdv G l < 2147483648 by omega))]
      by_cases z : gEls G i l < gAdv G l
      · rw [if_pos z, if_pos (show gMk G i l = true by unfold gMk; rw [o, decide_eq_true z]; rfl)]
        rfl
      · rw [if_neg z, if_neg (show ¬ gMk G i l = true by unfold gMk; rw [decide_eq_false z, Bool.and_false]; decide)]
        rfl
    · rw [if_pos o, if_neg (show ¬ gMk G i l = true by unfold gMk; rw [show gOv G i l = false by simpa using o, Bool.false_and]; decide)]
      rfl
  · intro fu
    rw [fX4_marksAll_c19, if_neg (by decide), nI_1]
theorem m_marksAll (R : RM h G) (A : IA G) : fX4_marksAll h = some (nI (gMks G), h) := by
  rw [← gMks_swap]
  unfold fX4_marksAll
  refine for_up 10 (fun fu i => fX4_marksAll_c4 fu (nI (fb_sm (fun l => fb_ct (fun f => gMk G f l) 20) i)) (nI i) h) _ ?_ ?_ (by omega)
  · intro fu i hi
    rw [fX4_marksAll_c4, if_pos (show nI i < (10 : Int32) from nI_lt (a := i) (b := 10) hi (by omega)), m_advertises R A.1 A.2.1 A.2.2.1 hi, e_bd, m_marksAll_c19 R A _ hi, fb_sm_succ]
  · intro fu
    rw [fX4_marksAll_c4, if_neg (by decide)]
end
theorem s_count (x : Int32) : Sp2 (fX3_count x) (fX4_count x) := by
  intro n h m hn ⟨G, R⟩
  have R0 := R.th0
  have A := R.2.2.1.1
  have I := R.iq
  obtain ⟨rq, rm, ii, oc, -, -, -, -, rf⟩ := id R0
  have v7 : h.1 2 7 = nI (mk (gTh G) 20) := R.rp.2.2.2.2
  have v8 : h.1 1 8 = nI (mk (gHd G) 20) := rq.2.2.2.2.2.1
  have v9 : h.1 1 9 = nI (G 0) := rq.2.2.2.2.2.2.1
  have v10 : h.1 1 10 = nI (G 1) := rq.2.2.2.2.2.2.2.1
  have v11 : h.1 1 11 = nI (G 2) := rq.2.2.2.2.2.2.2.2
  have e10 : ∀ p : Nat → Bool, fb_ct (mk p 10).testBit 20 = fb_ct p 10 := by
    intro p
    rw [show (20 : Nat) = 10 + 10 from rfl, fb_ct_split]
    have h1 : fb_ct (fun k => (mk p 10).testBit (10 + k)) 10 = 0 := fb_ct_zero.mpr (fun k _ => by rw [mk_bit, decide_eq_false (by omega)]; rfl)
    rw [h1, Nat.add_zero]
    exact fb_ct_cong (fun k hk => by rw [mk_bit]; simp [hk])
  have fin : ∀ r : Int32, ∃ r' h2 m2, some (r, h) = some (r', h2) ∧ some (r, th_up m 0 0 0) = some (r', m2) ∧ Rel (n + 1) h2 m2 := fun r => ⟨_, _, _, rfl, rfl, G, R0.inc⟩
  unfold fX3_count fX4_count
  by_cases k5 : x = 5
  · obtain ⟨h2, q2, P, O⟩ := c_markCount rq A oc
    rw [e_st, k5, if_neg (by decide), if_neg (by decide), if_neg (by decide), if_neg (by decide), if_neg (by decide), if_pos rfl, if_neg (by decide), if_neg (by decide), if_neg (by decide), if_neg (by decide), if_neg (by decide), if_pos rfl, bd1, bd1, q2, m_marksAll rm A]
    exact ⟨_, _, _, rfl, rfl, G, R0.pz hn P.pz (P.rq R.1) O R.2.2.1 SP.rf (MX.rf (s := []) R0.2.1) (by simp) (by simp) (by simp)⟩
  · simp only [bd1]
    rw [e_st, v7, v8, v9, v10, v11, bits_mk, bits_mk, c_linksInUse R.rp, e_bd, c_bits (Nat.lt_trans (mk_lt _ 10) (by decide)), e10, c_underWay rq ii, c_allToLose rq, m_flowMany rm I, m_heldMany rm ii, m_linksWithFlows rm I, m_underWay rm ii, m_toBeLost rm, if_neg k5, if_neg k5, m_inl x 6 10 (by decide) (by decide), e_bd, ic e_c0]
    have r0 : th_rd (th_up m 0 0 0) 2 643 0 (fun v => some (v, th_up m 0 0 0)) = some (nI (G 0), th_up m 0 0 0) := m_row rm (i := 0) (by omega)
    have r1 : th_rd (th_up m 0 0 0) 2 643 1 (fun v => some (v, th_up m 0 0 0)) = some (nI (G 1), th_up m 0 0 0) := m_row rm (i := 1) (by omega)
    have r2 : th_rd (th_up m 0 0 0) 2 643 2 (fun v => some (v, th_up m 0 0 0)) = some (nI (G 2), th_up m 0 0 0) := m_row rm (i := 2) (by omega)
    have c89 : ∀ j, j < 5 → th_rd h 89 5 (nI j) (fun v => some (v, h)) = some (h.1 89 j, h) := fun j hj => e_rd hj (by omega)
    rw [r0, r1, r2, show th_rd h 89 5 0 (fun v => some (v, h)) = some (h.1 89 0, h) from c89 0 (by omega), show th_rd h 89 5 1 (fun v => some (v, h)) = some (h.1 89 1, h) from c89 1 (by omega), show th_rd h 89 5 2 (fun v => some (v, h)) = some (h.1 89 2, h) from c89 2 (by omega), show th_rd h 89 5 3 (fun v => some (v, h)) = some (h.1 89 3, h) from c89 3 (by omega), show th_rd h 89 5 4 (fun v => some (v, h)) = some (h.1 89 4, h) from c89 4 (by omega)]
    by_cases d : 6 ≤ x.toInt ∧ x.toInt ≤ 10
    · have d2 : ¬ ¬ ((OfNat.ofNat 6 : Int) ≤ x.toInt ∧ x.toInt ≤ (OfNat.ofNat 10 : Int)) := not_not_intro d
      rw [if_neg d2]
      obtain ⟨j, hj, e⟩ := rng (x := x) (n := 11) (by omega) (by omega)
      subst e
      have hj6 : 6 ≤ j := by
        have := d.1
        rw [nI_toInt (by omega)] at this
        omega
      rw [e_subl (show 6 ≤ j from hj6), e_rd (show j - 6 < 5 by omega) (by omega), ← rf (j - 6) (by omega)]
      obtain rfl | rfl | rfl | rfl | rfl : j = 6 ∨ j = 7 ∨ j = 8 ∨ j = 9 ∨ j = 10 := by omega
      · exact fin _
      · exact fin _
      · exact fin _
      · exact fin _
      · exact fin _
    · have d2 : ¬ ((OfNat.ofNat 6 : Int) ≤ x.toInt ∧ x.toInt ≤ (OfNat.ofNat 10 : Int)) := d
      rw [if_pos d2]
      have ny : ∀ k : Int32, 6 ≤ k.toInt ∧ k.toInt ≤ 10 → ¬ x = k := fun k hk e => d (by rw [e]; exact hk)
      rw [if_neg (ny 6 (by decide)), if_neg (ny 7 (by decide)), if_neg (ny 8 (by decide)), if_neg (ny 9 (by decide)), if_neg (ny 10 (by decide)), if_neg (ny 6 (by decide)), if_neg (ny 7 (by decide)), if_neg (ny 8 (by decide)), if_neg (ny 9 (by decide)), if_neg (ny 10 (by decide))]
      by_cases c0 : x = 0
      · rw [if_pos c0, if_pos c0]; exact fin _
      rw [if_neg c0, if_neg c0]
      by_cases c1 : x = 1
      · rw [if_pos c1, if_pos c1]; exact fin _
      rw [if_neg c1, if_neg c1]
      by_cases c2 : x = 2
      · rw [if_pos c2, if_pos c2]; exact fin _
      rw [if_neg c2, if_neg c2]
      by_cases c3 : x = 3
      · rw [if_pos c3, if_pos c3]; exact fin _
      rw [if_neg c3, if_neg c3]
      by_cases c4 : x = 4
      · rw [if_pos c4, if_pos c4]; exact fin _
      rw [if_neg c4, if_neg c4]
      by_cases c11 : x = 11
      · rw [if_pos c11, if_pos c11]; exact fin _
      rw [if_neg c11, if_neg c11]
      by_cases c12 : x = 12
      · rw [if_pos c12, if_pos c12]; exact fin _
      rw [if_neg c12, if_neg c12]
      by_cases c13 : x = 13
      · rw [if_pos c13, if_pos c13]; exact fin _
      rw [if_neg c13, if_neg c13]
      exact fin _
