/-! ===== step ===== -/
theorem in_s : ∀ N, N < 20 → Int32.toInt64 (nI (N + 1)) - 1 = lN N := by decide +kernel
theorem m_inN (x : Int32) {N : Nat} (hN : N ≤ 20) (h : th_H) : fX4_in (Int32.toInt64 x) 0 (Int32.toInt64 (nI N) - 1) h = some (if 0 ≤ x.toInt ∧ x.toInt < N then 1 else 0, h) := by
  cases N with
  | zero =>
    unfold fX4_in
    rw [ic (m_lt _ _), ic (m_gt _ _), if_neg (show ¬ (0 ≤ x.toInt ∧ x.toInt < ((0 : Nat) : Int)) by omega)]
    by_cases c : Int32.toInt64 x < 0
    · rw [if_pos c]
    · have c2 : Int32.toInt64 (nI 0) - 1 < Int32.toInt64 x := by
        have e : Int32.toInt64 (nI 0) - 1 = -1 := by decide
        rw [e]
        rw [Int64.lt_iff_toInt_lt] at c ⊢
        have e1 : (-1 : Int64).toInt = -1 := by decide
        have e0 : (0 : Int64).toInt = 0 := by decide
        rw [e0] at c
        rw [e1]
        omega
      rw [if_neg c, if_pos c2]
  | succ N =>
    rw [in_s N (by omega), show (0 : Int64) = lN 0 from rfl, m_in x 0 N (by omega) (by omega)]
    congr 2
    exact ic (propext ⟨fun z => ⟨by omega, by omega⟩, fun z => ⟨by omega, by omega⟩⟩)
section
variable {h : th_H} {G : GR}
theorem fX_th {v : LV} {f : Nat} (h : fX G v f = true) : gTh G f = true := (fOp_th (fX_op h)).1
theorem m_step_c44 (R : RM h G) (M : FM G (fSteps G) h) (I : IQ G) (B : IB G) {j : Nat} (hj : j < fSteps G) (y : Int32) : fX4_step_c44 1000 (nI j) y 0 0 h = (if y = 0 then some (nI (fS G (fV G j)), h) else if y = 1 then some (nI (mk (fX G (fV G j)) 20), h) else if y = 2 then some (nI (mk (fK G (fV G j)) 10), h) else some (nI (gRs G (fX G (fV G j))), h)) := by
  have h20 : fSteps G ≤ 20 := fSteps_le
  obtain ⟨d10, d11, d12⟩ := M.2.2.1 j hj
  have j20 : j < 20 := by omega
  unfold gRs
  refine for_up 20 (fun fu i => fX4_step_c44 fu (nI j) y (nI (fb_sm (fun f => if fX G (fV G j) f = true then gRate G f (gLv G f) else 0) i)) (nI i) h) _ ?_ ?_ (by omega)
  · intro fu i hi
    rw [fX4_step_c44, if_pos (show nI i < (20 : Int32) from nI_lt (a := i) (b := 20) hi (by omega)), e_rd j20 (by omega), d11, e_bit (mk20 _) (by omega), ic e_c1, mk20_bit _ hi, fb_sm_succ, nI_1]
    by_cases c : fX G (fV G j) i = true
    · rw [if_pos c, if_pos c, m_fairRate R M I B hi (fX_th c), e_bd, nI_add]
    · rw [if_neg c, if_neg c, show (0 : Int32) = nI 0 from rfl, nI_add]
  · intro fu
    rw [fX4_step_c44, if_neg (by decide), e_rd j20 (by omega), e_rd j20 (by omega), e_rd j20 (by omega), d10, d11, d12]
end
