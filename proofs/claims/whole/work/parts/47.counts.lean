/-! ===== counts ===== -/
def gUw (G : GR) (f : Nat) : Bool := gTh G f && !(gWay G f == 0)
section
variable {q : Nat} {h : th_H} {G : GR}
theorem c_allToLose (R : RQ q h G) : fX1_allToLose q h = some (nI (fb_sm (gLose G) 10), h) := by
  unfold fX1_allToLose
  refine for_up 10 (fun fu i => fX1_allToLose_c4 q fu (nI (fb_sm (gLose G) i)) (nI i) h) _ ?_ ?_ (by omega)
  · intro fu i hi
    rw [fX1_allToLose_c4, if_pos (show nI i < (10 : Int32) from nI_lt (a := i) (b := 10) hi (by omega)), e_rd hi (by omega), R.2.2.1 i hi, fb_sm_succ, nI_add, nI_1]
  · intro fu
    rw [fX1_allToLose_c4, if_neg (by decide)]
theorem m_toBeLost (R : RM h G) : fX4_toBeLost h = some (nI (fb_sm (gLose G) 10), h) := by
  unfold fX4_toBeLost
  refine for_up 10 (fun fu i => fX4_toBeLost_c4 fu (nI (fb_sm (gLose G) i)) (nI i) h) _ ?_ ?_ (by omega)
  · intro fu i hi
    rw [fX4_toBeLost_c4, if_pos (show nI i < (10 : Int32) from nI_lt (a := i) (b := 10) hi (by omega)), e_ladd, m_row R (by omega), fb_sm_succ, nI_add, nI_1]
    rfl
  · intro fu
    rw [fX4_toBeLost_c4, if_neg (by decide)]
theorem c_underWay (R : RQ q h G) (I : II G) : fX1_underWay q h = some (nI (fb_ct (gUw G) 20), h) := by
  unfold fX1_underWay
  refine for_up 20 (fun fu i => fX1_underWay_c4 q fu (nI (fb_ct (gUw G) i)) (nI i) h) _ ?_ ?_ (by omega)
  · intro fu i hi
    have e : (h.1 (q + 13) i = 0) = ¬ gUw G i = true := by
      unfold gUw
      by_cases c : gTh G i = true
      · have := (I.2.2 i hi c).2.2.2.1
        rw [(R.2.2.2.1 i hi c).2.1, e_eql (n := 0) (by omega) (by decide), c]
        simp
      · have c2 : gTh G i = false := by simpa using c
        rw [(R.2.2.2.2.1 i hi c2).2.1, c2]
        simp
    rw [fX1_underWay_c4, if_pos (show nI i < (20 : Int32) from nI_lt (a := i) (b := 20) hi (by omega)), e_rd hi (by omega), ic e, fb_ct_succ, nI_1]
    by_cases c : gUw G i = true
    · rw [if_neg (not_not_intro c), if_pos c, nI_1]
    · rw [if_pos c, if_neg c, show (0 : Int32) = nI 0 from rfl, nI_add]
  · intro fu
    rw [fX1_underWay_c4, if_neg (by decide)]
theorem m_underWay (R : RM h G) (I : II G) : fX4_underWay h = some (nI (fb_ct (gUw G) 20), h) := by
  unfold fX4_underWay
  refine for_up 20 (fun fu i => fX4_underWay_c4 fu (nI (fb_ct (gUw G) i)) (nI i) h) _ ?_ ?_ (by omega)
  · intro fu i hi
    rw [fX4_underWay_c4, if_pos (show nI i < (20 : Int32) from nI_lt (a := i) (b := 20) hi (by omega)), m_isFlow R I.1.1 hi, e_bd, ic e_c0, fb_ct_succ, m_at, e_bd, e_addl (23 + 11 * i) 8, m_row R (show 23 + 11 * i + 8 < 643 by omega), nI_1]
    by_cases c : gTh G i = true
    · have hw : gWay G i ≤ 2 := (I.2.2 i hi c).2.2.2.1
      have e : ((0 : Int32) < nI (G (23 + 11 * i + 8))) = (gUw G i = true) := by
        show ((0 : Int32) < nI (gWay G i)) = _
        rw [e_llt (n := 0) (show gWay G i < 2147483648 by omega) (by decide)]
        unfold gUw
        rw [c]
        show (0 < gWay G i) = _
        simp
        omega
      rw [if_neg (not_not_intro c), ic e]
      by_cases d : gUw G i = true
      · rw [if_pos d, if_pos d, nI_1]
      · rw [if_neg d, if_neg d, show (0 : Int32) = nI 0 from rfl, nI_add]
    · rw [if_pos c, if_neg (by unfold gUw; simp [c]), show (0 : Int32) = nI 0 from rfl, nI_add]
  · intro fu
    rw [fX4_underWay_c4, if_neg (by decide)]
end
