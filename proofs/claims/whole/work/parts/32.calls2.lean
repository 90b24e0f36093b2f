/-! ===== calls that change the plan, and what is asked of it ===== -/
section
variable {n : Nat} {h m h2 m2 : th_H} {G G' : GR} {s : List Nat}
theorem RelG.edit (R : RelG n G h m) (hn : n < 512) {j : Nat} (h1j : 1 ≤ j) (hj : j ≤ 100) (Z : ∀ c, (c = 0 ∨ 19 ≤ c) → h2.1 c = h.1 c) (e13 : h2.1 1 13 = h.1 1 13) (e8 : h2.1 2 8 = h.1 2 8 + nI j) (rq : RQ 1 h2 G') (ii : II G') (M : MX s m m2 G') (h1 : 1 ∉ s) (h3 : 3 ∉ s) (h4 : 4 ∉ s) : RelG (n + 1) G' h2 m2 := by
  obtain ⟨-, -, -, -, -, ⟨a, b, f1, f2, f3, f4, f5, f6, f7, f8⟩, -, -, -⟩ := id R
  have e9 : h2.1 2 8 = nI (a + j) := by rw [e8, f1, nI_add]
  refine R.next (fun c hc => Z c (by omega)) rq M.1 ii ⟨fun hs => ?_, a + j, by omega, e9, by rw [e13]; exact f5.up (by omega)⟩ (fun z => ?_) ⟨a + j, b, e9, ?_⟩ (M.2.1 1 h1 (by omega)) (M.2.1 3 h3 (by omega)) (M.2.1 4 h4 (by omega))
  · exfalso
    have hs2 : h2.1 1 13 = h2.1 2 8 := hs
    rw [e13, e9] at hs2
    exact f5.ne (by omega) (by omega) hs2
  · exfalso
    rw [Z 19 (by omega), e9] at z
    exact f6.ne (by omega) (by omega) z
  · rw [Z 28 (by omega), Z 19 (by omega), Z 27 (by omega), Z 45 (by omega), e13]
    exact ⟨f2, by omega, by omega, f5.up (by omega), f6.up (by omega), f7, f8⟩
end
def gBook (G : GR) (l : Nat) : Nat := fb_sm (fun f => if gOv G f l = true then gRate G f (gTold G f) else 0) 20
def gOver (G : GR) (l : Nat) : Bool := decide (gCap G l < gBook G l)
section
variable {q : Nat} {h : th_H} {G : GR}
theorem II.told (I : II G) {f : Nat} (hf : f < 20) (ht : gTh G f = true) : gTold G f ≤ 1000000 := (I.2.2 f hf ht).2.2.1
theorem gBook_le (I : II G) (l : Nat) : gBook G l ≤ 180000180 := by
  have key : ∀ n, n ≤ 20 → fb_sm (fun f => if gOv G f l = true then gRate G f (gTold G f) else 0) n ≤ n * 9000009 := by
    intro n
    induction n with
    | zero => intro _; exact Nat.zero_le _
    | succ n ih =>
      intro hn
      have h1 := ih (by omega)
      rw [fb_sm_succ]
      by_cases c : gOv G n l = true
      · have ht := (I.1.1.ov (show n < 20 by omega) c).1
        have := gRate_le I.1.1 (show n < 20 by omega) ht (show gTold G n ≤ 1000001 by have := I.told (show n < 20 by omega) ht; omega)
        rw [if_pos c, Nat.succ_mul]
        exact Nat.add_le_add h1 this
      · rw [if_neg c, Nat.succ_mul]
        exact Nat.le_trans h1 (Nat.le_add_right _ _)
  exact key 20 (by omega)
theorem c_bookedAt (R : RQ q h G) (I : II G) {l : Nat} (hl : l < 10) : fX1_bookedAt q (nI l) h = some (nI (gBook G l), h) := by
  unfold fX1_bookedAt gBook
  refine for_up 20 (fun fu i => fX1_bookedAt_c4 q fu (nI l) (nI (fb_sm (fun f => if gOv G f l = true then gRate G f (gTold G f) else 0) i)) (nI i) h) _ ?_ ?_ (by omega)
  · intro fu i hi
    rw [fX1_bookedAt_c4, if_pos (show nI i < (20 : Int32) from nI_lt (a := i) (b := 20) hi (by omega)), c_crowd R.1 hl, e_bit (mk20 _) (by omega), ic e_c0, mk20_bit _ hi, fb_sm_succ, nI_1]
    by_cases c : gOv G i l = true
    · have ht := (I.1.1.ov hi c).1
      have := I.told hi ht
      rw [if_neg (not_not_intro c), if_pos c, e_rd hi (by omega), (R.2.2.2.1 i hi ht).1, c_rateBy R.1 I.1.1 hi ht (by omega), e_bd, nI_add]
    · rw [if_pos c, if_neg c]
      rfl
  · intro fu
    rw [fX1_bookedAt_c4, if_neg (by decide)]
theorem m_bookedOf (R : RM h G) (I : II G) {l : Nat} (hl : l < 10) : fX4_bookedOf (nI l) h = some (nI (gBook G l), h) := by
  unfold fX4_bookedOf gBook
  refine for_up 20 (fun fu i => fX4_bookedOf_c4 fu (nI l) (nI (fb_sm (fun f => if gOv G f l = true then gRate G f (gTold G f) else 0) i)) (nI i) h) _ ?_ ?_ (by omega)
  · intro fu i hi
    rw [fX4_bookedOf_c4, if_pos (show nI i < (20 : Int32) from nI_lt (a := i) (b := 20) hi (by omega)), m_goesOver R I.1.1 hi hl, e_bd, ic e_c0, fb_sm_succ, nI_1]
    by_cases c : gOv G i l = true
    · have ht := (I.1.1.ov hi c).1
      have := I.told hi ht
      rw [if_neg (not_not_intro c), if_pos c, m_at, e_bd, e_addl, m_row R (by omega)]
      show th_bd (fX4_rate (nI i) (nI (gTold G i)) h) _ = _
      rw [m_rate R I.1.1 hi ht (by omega), e_bd, nI_add]
    · rw [if_pos c, if_neg c, show (0 : Int32) = nI 0 from rfl, nI_add]
  · intro fu
    rw [fX4_bookedOf_c4, if_neg (by decide)]
theorem c_overbooked (R : RQ q h G) (I : II G) : fX1_overbooked q h = some (nI (mk (gOver G) 10), h) := by
  unfold fX1_overbooked
  refine for_up 10 (fun fu i => fX1_overbooked_c4 q fu (nI (mk (gOver G) i)) (nI i) h) _ ?_ ?_ (by omega)
  · intro fu i hi
    have := gBook_le I i
    have hc : gCap G i ≤ 1000000 := I.1.1.1 i hi
    have em : mk (gOver G) (i + 1) = mk (gOver G) i ||| (if gOver G i = true then 2 ^ i else 0) := rfl
    have eo : (nI (gCap G i) < nI (gBook G i)) = (gOver G i = true) := by rw [e_lt (by omega) (by omega)]; unfold gOver; simp
    rw [fX1_overbooked_c4, if_pos (show nI i < (10 : Int32) from nI_lt (a := i) (b := 10) hi (by omega)), c_bookedAt R I hi, e_bd, e_rd hi (by omega), R.1.1 i hi, ic eo, nI_1, em]
    by_cases c : gOver G i = true
    · rw [if_pos c, if_pos c, e_shl (by omega), fa_or]
    · rw [if_neg c, if_neg c, show (0 : Int32) = nI 0 from rfl, fa_or]
  · intro fu
    rw [fX1_overbooked_c4, if_neg (by decide)]
theorem m_overbooked (R : RM h G) (I : II G) : fX4_overbooked h = some (nI (mk (gOver G) 10), h) := by
  unfold fX4_overbooked
  refine for_up 10 (fun fu i => fX4_overbooked_c4 fu (nI (mk (gOver G) i)) (nI i) h) _ ?_ ?_ (by omega)
  · intro fu i hi
    have := gBook_le I i
    have hc : gCap G i ≤ 1000000 := I.1.1.1 i hi
    have em : mk (gOver G) (i + 1) = mk (gOver G) i ||| (if gOver G i = true then 2 ^ i else 0) := rfl
    have eo : (nI (G (3 + i)) < nI (gBook G i)) = (gOver G i = true) := by
      show (nI (gCap G i) < nI (gBook G i)) = _
      rw [e_lt (by omega) (by omega)]
      unfold gOver
      simp
    rw [fX4_overbooked_c4, if_pos (show nI i < (10 : Int32) from nI_lt (a := i) (b := 10) hi (by omega)), m_bookedOf R I hi, e_bd, e_ladd, m_row R (by omega), ic eo, nI_1, em]
    by_cases c : gOver G i = true
    · rw [if_pos c, if_pos c, e_shl (by omega), fa_or]
    · rw [if_neg c, if_neg c, show (0 : Int32) = nI 0 from rfl, fa_or]
  · intro fu
    rw [fX4_overbooked_c4, if_neg (by decide)]
/-- a name is given once -/
theorem m_namedBy (R : RM h G) (I : II G) (x : Int32) : fX4_namedBy x h = some (if gNamed G x < 20 then nI (gNamed G x) else -1, h) := by
  unfold fX4_namedBy
  have h20 : gNamed G x ≤ 20 := fa_first_le _ _
  refine for_up 20 (fun fu i => fX4_namedBy_c4 fu x (if gNamed G x < i then nI (gNamed G x) else -1) (nI i) h) _ ?_ ?_ (by omega)
  · intro fu i hi
    rw [fX4_namedBy_c4, if_pos (show nI i < (20 : Int32) from nI_lt (a := i) (b := 20) hi (by omega)), m_at, e_bd, m_row R (by omega), ic (e_eql (n := 1) (I.1.1.small hi) (by decide)), ic (gTh_iff i), m_at, e_bd, e_addl, m_row R (by omega), nI_1]
    have miss : ¬ (gTh G i = true ∧ nI (gName G i) = x) → (if gNamed G x < i then nI (gNamed G x) else -1) = (if gNamed G x < i + 1 then nI (gNamed G x) else (-1 : Int32)) := by
      intro z
      by_cases y : gNamed G x = i
      · exfalso
        have := fa_first_yes (fun f => gTh G f && decide (nI (gName G f) = x)) 20 (show gNamed G x < 20 by omega)
        rw [show fa_first (fun f => gTh G f && decide (nI (gName G f) = x)) 20 = i from y] at this
        simp at this
        exact z this
      · by_cases w : gNamed G x < i
        · rw [if_pos w, if_pos (by omega)]
        · rw [if_neg w, if_neg (by omega)]
    by_cases c : gTh G i = true
    · rw [if_pos c]
      show (if nI (gName G i) = x then _ else _) = _
      by_cases d : nI (gName G i) = x
      · rw [if_pos d]
        have y : gNamed G x = i := by
          have y1 : ¬ i < gNamed G x := by
            intro z
            have := fa_first_no (fun f => gTh G f && decide (nI (gName G f) = x)) 20 i z
            simp [c, d] at this
          have y2 := fa_first_yes (fun f => gTh G f && decide (nI (gName G f) = x)) 20 (show gNamed G x < 20 by omega)
          rw [show fa_first (fun f => gTh G f && decide (nI (gName G f) = x)) 20 = gNamed G x from rfl] at y2
          simp at y2
          have n1 := (I.2.2 i hi c).1
          have n2 := (I.2.2 (gNamed G x) (by omega) y2.1).1
          have y3 : nI (gName G i) = nI (gName G (gNamed G x)) := d.trans y2.2.symm
          rw [e_eq (by omega) (by omega)] at y3
          exact (I.2.1 i (gNamed G x) hi (by omega) c y2.1 y3).symm
        rw [if_pos (show gNamed G x < i + 1 by omega), y]
      · rw [if_neg d, miss (fun z => d z.2)]
    · rw [if_neg c, miss (fun z => c z.1)]
  · intro fu
    rw [fX4_namedBy_c4, if_neg (by decide)]
end
theorem s_named (x : Int32) : Sp2 (fX3_named x) (fX4_named x) := by
  intro n h m hn ⟨G, R⟩
  have R0 := R.th0
  unfold fX3_named fX4_named
  rw [bd1, e_st, bd1, c_flowNamed R.rp R.1.2.1, m_namedBy R0.2.1 R.2.2.1]
  exact ⟨_, _, _, rfl, rfl, G, R0.inc⟩
theorem s_over : Sp2 fX3_over fX4_over := by
  intro n h m hn ⟨G, R⟩
  have R0 := R.th0
  unfold fX3_over fX4_over
  rw [bd1, e_st, bd1, c_overbooked R.1 R.2.2.1, m_overbooked R0.2.1 R.2.2.1]
  exact ⟨_, _, _, rfl, rfl, G, R0.inc⟩
theorem s_booked (x : Int32) : Sp2 (fX3_booked x) (fX4_booked x) := by
  intro n h m hn ⟨G, R⟩
  have R0 := R.th0
  unfold fX3_booked fX4_booked
  rw [c_isLink, e_bd, e_st, m_isLink, e_bd, ic e_c0, ic e_c0, bd1, bd1]
  by_cases c : 0 ≤ x.toInt ∧ x.toInt ≤ 9
  · rw [if_neg (not_not_intro c), if_neg (not_not_intro c)]
    obtain ⟨l, hl, e⟩ := e_li x c
    subst e
    rw [c_bookedAt R.1 R.2.2.1 hl, m_bookedOf R0.2.1 R.2.2.1 hl]
    exact ⟨_, _, _, rfl, rfl, G, R0.inc⟩
  · rw [if_pos c, if_pos c]
    exact ⟨_, _, _, rfl, rfl, G, R0.inc⟩
