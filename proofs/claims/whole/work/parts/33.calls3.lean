/-! ===== links, lose, link, known ===== -/
section
variable {q : Nat} {h h2 m m2 : th_H} {G G' : GR} {n : Nat}
theorem m_links_c31 (R : RM h G) (I : IQ G) {l : Nat} (hl : l < 10) (y : Int32) : fX4_links_c31 1000 (nI l) y 0 0 h = (if y = 0 then some (nI (gCap G l), h) else if y = 1 then some (nI (gBnd G l), h) else some (nI (mk (fun f => gOv G f l) 20), h)) := by
  refine for_up 20 (fun fu i => fX4_links_c31 fu (nI l) y (nI (mk (fun f => gOv G f l) i)) (nI i) h) _ ?_ ?_ (by omega)
  · intro fu i hi
    have em : mk (fun f => gOv G f l) (i + 1) = mk (fun f => gOv G f l) i ||| (if gOv G i l = true then 2 ^ i else 0) := rfl
    rw [fX4_links_c31, if_pos (show nI i < (20 : Int32) from nI_lt (a := i) (b := 20) hi (by omega)), m_goesOver R I hi hl, e_bd, ic e_c0, nI_1, em]
    by_cases c : gOv G i l = true
    · rw [if_neg (not_not_intro c), if_pos c, e_shl (by omega), fa_or]
    · rw [if_pos c, if_neg c, show (0 : Int32) = nI 0 from rfl, fa_or]
  · intro fu
    rw [fX4_links_c31, if_neg (by decide), e_ladd, m_row R (by omega), m_bound R I hl, e_bd]
    rfl
end
theorem s_links (x y : Int32) : Sp2 (fX3_links x y) (fX4_links x y) := by
  intro n h m hn ⟨G, R⟩
  have R0 := R.th0
  unfold fX3_links fX4_links
  rw [c_isLink, e_bd, e_st, m_isLink, e_bd, ic e_c0, ic e_c0]
  by_cases c : 0 ≤ x.toInt ∧ x.toInt ≤ 9
  · rw [if_neg (not_not_intro c), if_neg (not_not_intro c)]
    obtain ⟨l, hl, e⟩ := e_li x c
    subst e
    rw [m_inl y 0 2 (by decide) (by decide), e_bd, ic e_c0, m_links_c31 R0.2.1 R.iq hl, e_rd hl (by omega), e_rd hl (by omega), c_boundOf R.rp R.iq hl, e_bd, R.rp.1 l hl, R.rp.2.1 l hl]
    by_cases d : 0 ≤ y.toInt ∧ y.toInt ≤ 2
    · obtain ⟨j, hj, e⟩ := rng (x := y) (n := 3) (by omega) (by omega)
      subst e
      rw [if_neg (not_not_intro d)]
      obtain rfl | rfl | rfl : j = 0 ∨ j = 1 ∨ j = 2 := by omega
      · exact ⟨_, _, _, rfl, rfl, G, R0.inc⟩
      · exact ⟨_, _, _, rfl, rfl, G, R0.inc⟩
      · exact ⟨_, _, _, rfl, rfl, G, R0.inc⟩
    · rw [if_pos d, if_neg (fun e => d (by rw [e]; decide)), if_neg (fun e => d (by rw [e]; decide)), if_neg (fun e => d (by rw [e]; decide))]
      exact ⟨_, _, _, rfl, rfl, G, R0.inc⟩
  · rw [if_pos c, if_pos c]
    exact ⟨_, _, _, rfl, rfl, G, R0.inc⟩
theorem s_lose (x y : Int32) : Sp2 (fX3_lose x y) (fX4_lose x y) := by
  intro n h m hn ⟨G, R⟩
  have R0 := R.th0
  unfold fX3_lose fX4_lose
  have e1 : (y < 0) = (y.toInt < 0) := e_xlt y 0 (by decide)
  have e2 : (99 < y) = (99 < y.toInt) := e_ltx y 99 (by decide)
  simp only [bd1]
  rw [c_isLink, e_bd, e_st, m_isLink, e_bd, ic e_c0, ic e_c0]
  by_cases c : 0 ≤ x.toInt ∧ x.toInt ≤ 9
  · rw [if_neg (not_not_intro c), if_neg (not_not_intro c), m_inl y 0 99 (by decide) (by decide), e_bd, ic e_c0, ic e1, ic e2]
    obtain ⟨l, hl, e⟩ := e_li x c
    subst e
    by_cases d : 0 ≤ y.toInt ∧ y.toInt ≤ 99
    · obtain ⟨u, hu, e⟩ := rng (x := y) (n := 100) (by omega) (by omega)
      subst e
      rw [if_neg (by omega), if_neg (by omega), if_neg (not_not_intro d), e_rd hl (by omega), e_wr hl (by omega), e_ladd, m_row R0.2.1 (by omega), e_wr (by omega) (by omega), R.1.2.2.1 l hl]
      obtain ⟨I2, S2⟩ := R.2.2.1.up (k := 13 + l) (v := u) (Or.inr (Or.inl (by omega)))
      have Z : PZ 1 h (th_up h 13 l (nI u)) := PZ.rf.up (Or.inr (by omega))
      have rq : RQ 1 (th_up h 13 l (nI u)) (gu G (13 + l) u) := by
        have := R.1.lose (u := u) (v := G 2) hl Z rfl (fun c x y z => up_cell (by omega)) (by rw [up_cell (by omega)]; exact R.1.2.2.2.2.2.2.2.2) (fun j _ => by rw [up_cell (by omega)])
        rw [gu_same (k := 2) (gu_ne (by omega))] at this
        exact this
      have oc : OC 1 (th_up h 13 l (nI u)) (gu G (13 + l) u) := R.2.2.2.1.keep (by rw [up_cell (by omega)]) (by rw [up_cell (by omega)]) (by rw [up_cell (by omega)]) (fun l' hl' => gAdv_other (Or.inr (Or.inr (Or.inr (Or.inl (by omega))))) hl')
      exact ⟨_, _, _, rfl, rfl, _, R0.pz hn Z rq oc I2 S2 (((MF.rf R0.2.1).up).mx []) (by simp) (by simp) (by simp)⟩
    · rw [if_pos d]
      by_cases c1 : y.toInt < 0
      · rw [if_pos c1]
        exact R.no (w := 0) (by omega)
      · rw [if_neg c1, if_pos (show 99 < y.toInt by omega)]
        exact R.no (w := 0) (by omega)
  · rw [if_pos c, if_pos c]
    exact R.no (w := 0) (by omega)
