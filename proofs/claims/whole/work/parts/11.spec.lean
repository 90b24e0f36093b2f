/-! ===== what a state is, in numbers: the reference's row ===== -/
abbrev GR : Type := Nat → Nat
def gu (G : GR) (k v : Nat) : GR := fun j => if j = k then v else G j
def gCap (G : GR) (l : Nat) : Nat := G (3 + l)
def gLose (G : GR) (l : Nat) : Nat := G (13 + l)
def gTh (G : GR) (f : Nat) : Bool := G (23 + 11 * f) == 1
def gName (G : GR) (f : Nat) : Nat := G (23 + 11 * f + 1)
def gPath (G : GR) (f : Nat) : Nat := G (23 + 11 * f + 2)
def gWt (G : GR) (f : Nat) : Nat := G (23 + 11 * f + 3)
def gLeast (G : GR) (f : Nat) : Nat := G (23 + 11 * f + 4)
def gWant (G : GR) (f : Nat) : Nat := G (23 + 11 * f + 5)
def gHeld (G : GR) (f : Nat) : Nat := G (23 + 11 * f + 6)
def gTold (G : GR) (f : Nat) : Nat := G (23 + 11 * f + 7)
def gWay (G : GR) (f : Nat) : Nat := G (23 + 11 * f + 8)
def gWl (G : GR) (f : Nat) : Nat := G (23 + 11 * f + 9)
def gWh (G : GR) (f : Nat) : Nat := G (23 + 11 * f + 10)
def gAh (G : GR) (f l : Nat) : Nat := G (243 + 10 * f + l)
def gBh (G : GR) (f l : Nat) : Nat := G (443 + 10 * f + l)
def gOv (G : GR) (f l : Nat) : Bool := gTh G f && (gPath G f).testBit l
def gRate (G : GR) (f t : Nat) : Nat := max (gWt G f * t) (gLeast G f)
def gOwn (G : GR) (f : Nat) : Nat := gWant G f / gWt G f
def gBnd (G : GR) (l : Nat) : Nat := fb_sm (fun f => if gOv G f l = true then gLeast G f else 0) 20
def gEls (G : GR) (f l : Nat) : Nat := min (gAh G f l) (gBh G f l)
def gS (G : GR) (l t : Nat) : Nat := fb_sm (fun f => if gOv G f l = true then gRate G f (min t (gEls G f l)) else 0) 20
def gAdv (G : GR) (l : Nat) : Nat := gl (fun t => decide (gS G l t ≤ gCap G l))
def gMany (G : GR) : Nat := fb_ct (gTh G) 20
/-- links and flows are as they may be -/
def IQ (G : GR) : Prop := (∀ l, l < 10 → gCap G l ≤ 1000000) ∧ ∀ f, f < 20 → G (23 + 11 * f) ≤ 1 ∧ (gTh G f = true → 0 < gPath G f ∧ gPath G f < 1024 ∧ 0 < gWt G f ∧ gWt G f ≤ 9 ∧ gLeast G f ≤ gWant G f ∧ gWant G f ≤ 1000000)
def IB (G : GR) : Prop := ∀ l, l < 10 → gBnd G l ≤ gCap G l
/-- what letters have told is as it may be -/
def IL (G : GR) : Prop := (∀ l, l < 10 → gLose G l ≤ 99) ∧ ∀ f, f < 20 → gTh G f = true → gName G f < 1000000 ∧ gHeld G f ≤ 1 ∧ gTold G f ≤ 1000000 ∧ gWay G f ≤ 2 ∧ (gWay G f ≠ 0 → gWl G f < 10 ∧ (gPath G f).testBit (gWl G f) = true ∧ gWh G f ≤ 1000000) ∧ ∀ l, l < 10 → gAh G f l ≤ 1000000 ∧ gBh G f l ≤ 1000000
def IN (G : GR) : Prop := ∀ f g, f < 20 → g < 20 → gTh G f = true → gTh G g = true → gName G f = gName G g → f = g
def RM (h : th_H) (G : GR) : Prop := ∀ k, k < 643 → h.1 2 k = nI (G k)
theorem RM.up {h : th_H} {G : GR} (R : RM h G) {k v : Nat} : RM (th_up h 2 k (nI v)) (gu G k v) := by
  intro j hj
  rw [up_at]
  unfold gu
  by_cases c : j = k
  · rw [if_pos ⟨rfl, c⟩, if_pos c]
  · rw [if_neg (fun z => c z.2), if_neg c]
    exact R j hj
theorem RM.off {h h2 : th_H} {G : GR} (R : RM h G) (e : h2.1 2 = h.1 2) : RM h2 G := fun k hk => by rw [e]; exact R k hk
theorem IQ.ov {G : GR} (I : IQ G) {f l : Nat} (hf : f < 20) (h : gOv G f l = true) : gTh G f = true ∧ (gPath G f).testBit l = true ∧ gPath G f < 1024 ∧ 0 < gWt G f ∧ gWt G f ≤ 9 ∧ gLeast G f ≤ gWant G f ∧ gWant G f ≤ 1000000 := by
  have h1 : gTh G f = true ∧ (gPath G f).testBit l = true := by simpa [gOv] using h
  obtain ⟨-, a, b, c, d, e⟩ := (I.2 f hf).2 h1.1
  exact ⟨h1.1, h1.2, a, b, c, d, e⟩
theorem gRate_le {G : GR} (I : IQ G) {f t : Nat} (hf : f < 20) (h : gTh G f = true) (ht : t ≤ 1000001) : gRate G f t ≤ 9000009 := by
  obtain ⟨-, -, a, b, c, d⟩ := (I.2 f hf).2 h
  unfold gRate
  have : gWt G f * t ≤ 9 * 1000001 := Nat.mul_le_mul b ht
  omega
theorem gRate_mono {G : GR} {f a b : Nat} (h : a ≤ b) : gRate G f a ≤ gRate G f b := by
  unfold gRate
  have : gWt G f * a ≤ gWt G f * b := Nat.mul_le_mul_left _ h
  omega
theorem gS_mono {G : GR} {l a b : Nat} (h : a ≤ b) : gS G l a ≤ gS G l b := by
  refine fb_sm_le (fun f _ => ?_)
  by_cases c : gOv G f l = true
  · simp only [if_pos c]
    exact gRate_mono (by omega)
  · simp only [if_neg c]
    exact Nat.le_refl _
theorem gS_0 {G : GR} {l : Nat} : gS G l 0 = gBnd G l := by
  refine fb_sm_cong (fun f _ => ?_)
  by_cases c : gOv G f l = true
  · simp only [if_pos c]
    simp [gRate]
  · simp only [if_neg c]
theorem gS_le {G : GR} (I : IQ G) {l t : Nat} (ht : t ≤ 1000001) (n : Nat) (hn : n ≤ 20) : fb_sm (fun f => if gOv G f l = true then gRate G f (min t (gEls G f l)) else 0) n ≤ n * 9000009 := by
  refine fb_sm_bound (fun f hf => ?_)
  by_cases c : gOv G f l = true
  · simp only [if_pos c]
    exact gRate_le I (by omega) (I.ov (by omega) c).1 (by omega)
  · simp only [if_neg c]
    omega
