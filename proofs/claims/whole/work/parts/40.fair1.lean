/-! ===== what is fair, side by side ===== -/
section
variable {n : Nat} {h m h2 m2 : th_H} {G : GR}
theorem RelG.rise (R : RelG n G h m) : ∃ h2, fX2_rise 19 2 h = some ((), h2) ∧ FWt 19 G h2 ∧ RelG n G h2 m := by
  obtain ⟨rq, rm, ii, oc, fw, ⟨a, b, f1, f2, f3, f4, f5, f6, f7, f8⟩, -, -, -⟩ := id R
  obtain ⟨h2, q2, F, e, Z⟩ := c_rise R.rp ii.1.1 ii.1.2.1 (show 2 + 8 ≤ 19 by omega) fw
  refine ⟨h2, q2, F, R.next (fun c hc => Z.1 c (by omega)) (rq.cells (fun c _ _ => Z.1 c (by omega))) rm ii (oc.keep (by rw [Z.1 1 (by omega)]) (by rw [Z.1 (1 + 1) (by omega)]) (by rw [Z.1 (1 + 16) (by omega)]) (fun _ _ => rfl)) (fun _ => F) ⟨a, b, ?_⟩ rfl rfl rfl⟩
  have e2 : h2.1 2 8 = nI a := by rw [Z.1 2 (by omega)]; exact f1
  rw [e2, Z.1 28 (by omega), Z.1 1 (by omega), Z.1 27 (by omega), Z.1 45 (by omega)]
  exact ⟨rfl, f2, f3, f4, f5, Or.inr ⟨a, Nat.le_refl a, e.trans e2⟩, f7, f8⟩
theorem RelG.lay (R : RelG n G h m) : ∃ m2, fX4_layFair m = some ((), m2) ∧ FM G (fSteps G) m2 ∧ MZ m m2 ∧ RelG n G h m2 := by
  obtain ⟨rq, rm, ii, oc, fw, ed, -, -, -⟩ := id R
  obtain ⟨m2, q2, F, Z⟩ := m_layFair rm ii.1.1 ii.1.2.1
  exact ⟨m2, q2, F, Z, R.next (fun _ _ => rfl) rq (Z.row rm) ii oc fw ed (Z.1 1 (by omega) (by omega)) (Z.1 3 (by omega) (by omega)) (Z.1 4 (by omega) (by omega))⟩
/-- a flow that is there has a level -/
theorem fV_there (I : IQ G) {f : Nat} (hf : f < 20) (ht : gTh G f = true) : ∃ t, fV G (fSteps G) f = some t := by
  have h1 := fSteps_end I
  cases e : fV G (fSteps G) f with
  | some t => exact ⟨t, rfl⟩
  | none =>
    exfalso
    have : fAny G (fV G (fSteps G)) = true := fAny_iff.mpr ⟨f, hf, by unfold fOp; rw [ht, e]; rfl⟩
    rw [h1] at this
    cases this
end
