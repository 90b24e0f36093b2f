/-! ===== links with flows, the reference's side ===== -/
section
variable {h : th_H} {G : GR}
theorem m_hasFlows (R : RM h G) (I : IQ G) {l : Nat} (hl : l < 10) : fX4_hasFlows (nI l) h = some (bI (gUse G l), h) := by
  unfold fX4_hasFlows gUse
  refine for_up 20 (fun fu i => fX4_hasFlows_c4 fu (nI l) (bI (an (fun f => gOv G f l) i)) (nI i) h) _ ?_ ?_ (by omega)
  · intro fu i hi
    have ea : an (fun f => gOv G f l) (i + 1) = (an (fun f => gOv G f l) i || gOv G i l) := rfl
    rw [fX4_hasFlows_c4, if_pos (show nI i < (20 : Int32) from nI_lt (a := i) (b := 20) hi (by omega)), ic (bI_0 _), m_goesOver R I hi hl, e_bd, ic e_c0, nI_1, ea]
    cases c : an (fun f => gOv G f l) i with
    | true =>
      rw [if_neg (by simp)]
      rfl
    | false =>
      rw [if_pos rfl]
      cases d : gOv G i l with
      | true => rw [if_neg (by simp)]; rfl
      | false => rw [if_pos (by simp)]; rfl
  · intro fu
    rw [fX4_hasFlows_c4, if_neg (by decide), bI_gb]
theorem m_linksWithFlows (R : RM h G) (I : IQ G) : fX4_linksWithFlows h = some (nI (fb_ct (gUse G) 10), h) := by
  unfold fX4_linksWithFlows
  refine for_up 10 (fun fu i => fX4_linksWithFlows_c4 fu (nI (fb_ct (gUse G) i)) (nI i) h) _ ?_ ?_ (by omega)
  · intro fu i hi
    rw [fX4_linksWithFlows_c4, if_pos (show nI i < (10 : Int32) from nI_lt (a := i) (b := 10) hi (by omega)), m_hasFlows R I hi, e_bd, ic (bI_0 _), fb_ct_succ, nI_1]
    by_cases c : gUse G i = true
    · rw [if_neg (by simp [c]), if_pos c, nI_1]
    · rw [if_pos (by simpa using c), if_neg c, show (0 : Int32) = nI 0 from rfl, nI_add]
  · intro fu
    rw [fX4_linksWithFlows_c4, if_neg (by decide)]
end
