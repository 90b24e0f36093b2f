/-! ===== links with flows ===== -/
def gUse (G : GR) (l : Nat) : Bool := an (fun f => gOv G f l) 20
section
variable {p : Nat} {h : th_H} {G : GR}
theorem crowd0 (l : Nat) : (mk (fun f => gOv G f l) 20 = 0) = ¬ gUse G l = true := by
  apply propext
  constructor
  · intro e z
    obtain ⟨f, hf, ho⟩ := an_iff.mp z
    have := mk20_bit (fun f => gOv G f l) hf
    rw [e, ho] at this
    simp at this
  · intro z
    refine (bits0 (mk_lt _ 20)).mpr (fun i hi => ?_)
    rw [mk20_bit _ hi]
    cases c : gOv G i l
    · rfl
    · exact absurd (an_iff.mpr ⟨i, hi, c⟩) z
theorem c_linksInUse (R : RP p h G) : fX0_linksInUse p h = some (nI (mk (gUse G) 10), h) := by
  unfold fX0_linksInUse
  refine for_up 10 (fun fu i => fX0_linksInUse_c4 p fu (nI (mk (gUse G) i)) (nI i) h) _ ?_ ?_ (by omega)
  · intro fu i hi
    have em : mk (gUse G) (i + 1) = mk (gUse G) i ||| (if gUse G i = true then 2 ^ i else 0) := rfl
    rw [fX0_linksInUse_c4, if_pos (show nI i < (10 : Int32) from nI_lt (a := i) (b := 10) hi (by omega)), c_crowd R hi, ic (e_eql (n := 0) (mk20 _) (by decide)), ic (crowd0 i), nI_1, em]
    by_cases c : gUse G i = true
    · rw [if_neg (not_not_intro c), if_pos c, e_shl (by omega), fa_or]
    · rw [if_pos c, if_neg c, show (0 : Int32) = nI 0 from rfl, fa_or]
  · intro fu
    rw [fX0_linksInUse_c4, if_neg (by decide)]
end
