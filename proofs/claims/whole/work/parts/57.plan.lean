/-! ===== a plan with another flow ===== -/
/-- all but one flow's own numbers are the same -/
def FLX (f : Nat) (G G' : GR) : Prop := ∀ k, ¬ ((23 + 11 * f ≤ k ∧ k ≤ 23 + 11 * f + 10) ∨ (243 + 10 * f ≤ k ∧ k < 253 + 10 * f) ∨ (443 + 10 * f ≤ k ∧ k < 453 + 10 * f)) → G' k = G k
theorem mk_one {f n : Nat} (hf : f < n) : mk (fun g => g == f) n = 2 ^ f := by
  apply Nat.eq_of_testBit_eq
  intro i
  rw [mk_bit, Nat.testBit_two_pow]
  by_cases c : f = i
  · subst c
    simp [hf]
  · have c2 : ¬ i = f := fun z => c z.symm
    simp [c, c2]
theorem off_bit {A : Nat → Bool} {f : Nat} (hf : f < 20) : nI (mk A 20) &&& (((1 : Int32) <<< (nI f &&& 31)) ^^^ (-1)) = nI (mk (fun g => A g && !(g == f)) 20) := by
  rw [e_shl (by omega), ← mk_one (n := 20) hf, not_bits]
theorem on_bit {A : Nat → Bool} {f : Nat} (hf : f < 20) : nI (mk A 20) ||| ((1 : Int32) <<< (nI f &&& 31)) = nI (mk (fun g => A g || g == f) 20) := by
  rw [e_shl (by omega), ← mk_one (n := 20) hf, fa_or, mk_or]
section
variable {p q f : Nat} {h h2 : th_H} {G G' : GR}
theorem FLX.th (X : FLX f G G') (hf : f < 20) {g : Nat} (hg : g < 20) (z : g ≠ f) : gTh G' g = gTh G g := by unfold gTh; rw [X _ (by omega)]
theorem FLX.name (X : FLX f G G') (hf : f < 20) {g : Nat} (hg : g < 20) (z : g ≠ f) : gName G' g = gName G g := X _ (by omega)
theorem FLX.path (X : FLX f G G') (hf : f < 20) {g : Nat} (hg : g < 20) (z : g ≠ f) : gPath G' g = gPath G g := X _ (by omega)
theorem FLX.wt (X : FLX f G G') (hf : f < 20) {g : Nat} (hg : g < 20) (z : g ≠ f) : gWt G' g = gWt G g := X _ (by omega)
theorem FLX.least (X : FLX f G G') (hf : f < 20) {g : Nat} (hg : g < 20) (z : g ≠ f) : gLeast G' g = gLeast G g := X _ (by omega)
theorem FLX.want (X : FLX f G G') (hf : f < 20) {g : Nat} (hg : g < 20) (z : g ≠ f) : gWant G' g = gWant G g := X _ (by omega)
theorem FLX.held (X : FLX f G G') (hf : f < 20) {g : Nat} (hg : g < 20) (z : g ≠ f) : gHeld G' g = gHeld G g := X _ (by omega)
theorem FLX.told (X : FLX f G G') (hf : f < 20) {g : Nat} (hg : g < 20) (z : g ≠ f) : gTold G' g = gTold G g := X _ (by omega)
theorem FLX.way (X : FLX f G G') (hf : f < 20) {g : Nat} (hg : g < 20) (z : g ≠ f) : gWay G' g = gWay G g := X _ (by omega)
theorem FLX.wl (X : FLX f G G') (hf : f < 20) {g : Nat} (hg : g < 20) (z : g ≠ f) : gWl G' g = gWl G g := X _ (by omega)
theorem FLX.wh (X : FLX f G G') (hf : f < 20) {g : Nat} (hg : g < 20) (z : g ≠ f) : gWh G' g = gWh G g := X _ (by omega)
theorem FLX.ah (X : FLX f G G') (hf : f < 20) {g l : Nat} (hg : g < 20) (z : g ≠ f) (hl : l < 10) : gAh G' g l = gAh G g l := X _ (by omega)
theorem FLX.bh (X : FLX f G G') (hf : f < 20) {g l : Nat} (hg : g < 20) (z : g ≠ f) (hl : l < 10) : gBh G' g l = gBh G g l := X _ (by omega)
theorem FLX.ov (X : FLX f G G') (hf : f < 20) {g l : Nat} (hg : g < 20) (z : g ≠ f) : gOv G' g l = gOv G g l := by unfold gOv; rw [X.th hf hg z, X.path hf hg z]
theorem FLX.cap (X : FLX f G G') {l : Nat} (hl : l < 10) : gCap G' l = gCap G l := X _ (by omega)
theorem RP.flow (R : RP p h G) (X : FLX f G G') (hf : f < 20) (c1 : h2.1 (p + 1) = h.1 (p + 1))
    (c2 : ∀ l, l < 10 → h2.1 (p + 2) l = nI (mk (fun g => if g = f then gOv G' f l else gOv G g l) 20))
    (c4f : h2.1 (p + 4) f = nI (if gTh G' f = true then gPath G' f else 0)) (c4 : ∀ g, g ≠ f → h2.1 (p + 4) g = h.1 (p + 4) g)
    (c5f : gTh G' f = true → h2.1 (p + 5) f = nI (gWt G' f) ∧ h2.1 (p + 6) f = nI (gLeast G' f) ∧ h2.1 (p + 7) f = nI (gWant G' f))
    (c5 : ∀ g, g ≠ f → h2.1 (p + 5) g = h.1 (p + 5) g ∧ h2.1 (p + 6) g = h.1 (p + 6) g ∧ h2.1 (p + 7) g = h.1 (p + 7) g)
    (c7 : h2.1 p 7 = nI (mk (gTh G') 20)) : RP p h2 G' := by
  obtain ⟨a, b, c, d, e⟩ := R
  refine ⟨fun l hl => by rw [c1, X.cap hl]; exact a l hl, fun l hl => ?_, fun g hg => ?_, fun g hg ht => ?_, c7⟩
  · rw [c2 l hl]
    refine congrArg nI (mk_cong (fun g hg => ?_))
    by_cases z : g = f
    · rw [if_pos z, z]
    · rw [if_neg z, X.ov hf hg z]
  · by_cases z : g = f
    · rw [z]; exact c4f
    · rw [c4 g z, X.th hf hg z, X.path hf hg z]; exact c g hg
  · by_cases z : g = f
    · rw [z] at ht ⊢; exact c5f ht
    · rw [X.th hf hg z] at ht
      obtain ⟨x5, x6, x7⟩ := c5 g z
      rw [x5, x6, x7, X.wt hf hg z, X.least hf hg z, X.want hf hg z]
      exact d g hg ht
theorem II.flow (I : II G) (X : FLX f G G') (hf : f < 20) (t1 : G' (23 + 11 * f) ≤ 1) (B' : IB G')
    (bg : ∀ k, ((23 + 11 * f ≤ k ∧ k ≤ 23 + 11 * f + 10) ∨ (243 + 10 * f ≤ k ∧ k < 253 + 10 * f) ∨ (443 + 10 * f ≤ k ∧ k < 453 + 10 * f)) → G' k < 4294967296)
    (T1 : gTh G' f = true → 0 < gPath G' f ∧ gPath G' f < 1024 ∧ 0 < gWt G' f ∧ gWt G' f ≤ 9 ∧ gLeast G' f ≤ gWant G' f ∧ gWant G' f ≤ 1000000)
    (T2 : gTh G' f = true → ∀ g, g < 20 → g ≠ f → gTh G g = true → gName G g ≠ gName G' f)
    (T3 : gTh G' f = true → gName G' f < 1000000 ∧ gHeld G' f ≤ 1 ∧ gTold G' f ≤ 1000000 ∧ gWay G' f ≤ 2 ∧ (gWay G' f ≠ 0 → gWl G' f < 10 ∧ (gPath G' f).testBit (gWl G' f) = true ∧ gWh G' f ≤ 1000000) ∧ ∀ l, l < 10 → (gPath G' f).testBit l = false → gAh G' f l = 1000000 ∧ gBh G' f l = 1000000)
    (T4 : gTh G' f = true → ∀ l, l < 10 → gAh G' f l ≤ 1000000 ∧ gBh G' f l ≤ 1000000) : II G' := by
  obtain ⟨⟨⟨a1, a2⟩, b, e, ls, bgG⟩, i2, i3⟩ := I
  refine ⟨⟨⟨fun l hl => by rw [X.cap hl]; exact a1 l hl, fun g hg => ?_⟩, B', fun g hg ht l hl => ?_, fun l hl => by rw [X _ (by omega)]; exact ls l hl, fun k h1 h2 => ?_⟩, fun g g' hg hg' tg tg' e => ?_, fun g hg ht => ?_⟩
  · by_cases z : g = f
    · rw [z]; exact ⟨t1, T1⟩
    · rw [X.th hf hg z, X.path hf hg z, X.wt hf hg z, X.least hf hg z, X.want hf hg z, X _ (by omega)]
      exact a2 g hg
  · by_cases z : g = f
    · rw [z] at ht ⊢; exact T4 ht l hl
    · rw [X.th hf hg z] at ht
      rw [X.ah hf hg z hl, X.bh hf hg z hl]
      exact e g hg ht l hl
  · by_cases z : (23 + 11 * f ≤ k ∧ k ≤ 23 + 11 * f + 10) ∨ (243 + 10 * f ≤ k ∧ k < 253 + 10 * f) ∨ (443 + 10 * f ≤ k ∧ k < 453 + 10 * f)
    · exact bg k z
    · rw [X k z]; exact bgG k h1 h2
  · by_cases z : g = f
    · by_cases z' : g' = f
      · rw [z, z']
      · exfalso
        rw [X.th hf hg' z'] at tg'
        rw [z] at tg e
        rw [X.name hf hg' z'] at e
        exact T2 tg g' hg' z' tg' e.symm
    · by_cases z' : g' = f
      · exfalso
        rw [X.th hf hg z] at tg
        rw [z'] at tg' e
        rw [X.name hf hg z] at e
        exact T2 tg' g hg z tg e
      · rw [X.th hf hg z] at tg
        rw [X.th hf hg' z'] at tg'
        rw [X.name hf hg z, X.name hf hg' z'] at e
        exact i2 g g' hg hg' tg tg' e
  · by_cases z : g = f
    · rw [z] at ht ⊢; exact T3 ht
    · rw [X.th hf hg z] at ht
      rw [X.name hf hg z, X.held hf hg z, X.told hf hg z, X.way hf hg z, X.wl hf hg z, X.wh hf hg z, X.path hf hg z]
      obtain ⟨j1, j2, j3, j4, j5, j6⟩ := i3 g hg ht
      refine ⟨j1, j2, j3, j4, j5, fun l hl hb => ?_⟩
      rw [X.ah hf hg z hl, X.bh hf hg z hl]
      exact j6 l hl hb
theorem RQ.flow (R : RQ q h G) (X : FLX f G G') (hf : f < 20) (rp : RP (q + 1) h2 G')
    (n3 : ∀ g, g ≠ f → h2.1 (q + 1 + 3) g = h.1 (q + 1 + 3) g) (n3f : gTh G' f = true → h2.1 (q + 1 + 3) f = nI (gName G' f))
    (c12 : h2.1 (q + 12) = h.1 (q + 12))
    (co : ∀ g, g ≠ f → h2.1 (q + 11) g = h.1 (q + 11) g ∧ h2.1 (q + 13) g = h.1 (q + 13) g ∧ h2.1 (q + 14) g = h.1 (q + 14) g ∧ h2.1 (q + 15) g = h.1 (q + 15) g)
    (ca : ∀ k, (k < f * 10 ∨ f * 10 + 10 ≤ k) → h2.1 (q + 9) k = h.1 (q + 9) k ∧ h2.1 (q + 10) k = h.1 (q + 10) k)
    (Tt : gTh G' f = true → h2.1 (q + 11) f = nI (gTold G' f) ∧ h2.1 (q + 13) f = nI (gWay G' f) ∧ (gWay G' f ≠ 0 → h2.1 (q + 14) f = nI (gWl G' f) ∧ h2.1 (q + 15) f = nI (gWh G' f)) ∧ ∀ l, l < 10 → h2.1 (q + 9) (f * 10 + l) = nI (gAh G' f l) ∧ h2.1 (q + 10) (f * 10 + l) = nI (gBh G' f l))
    (Tf : gTh G' f = false → h2.1 (q + 11) f = 0 ∧ h2.1 (q + 13) f = 0 ∧ ∀ l, l < 10 → h2.1 (q + 9) (f * 10 + l) = nI 1000000 ∧ h2.1 (q + 10) (f * 10 + l) = nI 1000000)
    (c8 : h2.1 q 8 = nI (mk (fun f => gTh G' f && gHeld G' f == 1) 20)) (c9 : ∀ j, 9 ≤ j → j ≤ 11 → h2.1 q j = h.1 q j) : RQ q h2 G' := by
  obtain ⟨a, b, c, d, e, g, i, j, k⟩ := R
  refine ⟨rp, fun g hg ht => ?_, fun l hl => ?_, fun g hg ht => ?_, fun g hg ht => ?_, c8, ?_, ?_, ?_⟩
  · by_cases z : g = f
    · rw [z] at ht ⊢; exact n3f ht
    · rw [X.th hf hg z] at ht
      rw [n3 g z, X.name hf hg z]; exact b g hg ht
  · unfold gLose
    rw [c12, X _ (by omega)]
    exact c l hl
  · by_cases z : g = f
    · rw [z] at ht ⊢; exact Tt ht
    · rw [X.th hf hg z] at ht
      obtain ⟨o1, o2, o3, o4⟩ := co g z
      rw [o1, o2, o3, o4, X.told hf hg z, X.way hf hg z, X.wl hf hg z, X.wh hf hg z]
      obtain ⟨d1, d2, d3, d4⟩ := d g hg ht
      refine ⟨d1, d2, d3, fun l hl => ?_⟩
      obtain ⟨y1, y2⟩ := ca (g * 10 + l) (by omega)
      rw [y1, y2, X.ah hf hg z hl, X.bh hf hg z hl]
      exact d4 l hl
  · by_cases z : g = f
    · rw [z] at ht ⊢; exact Tf ht
    · rw [X.th hf hg z] at ht
      obtain ⟨o1, o2, o3, o4⟩ := co g z
      obtain ⟨d1, d2, d4⟩ := e g hg ht
      rw [o1, o2]
      refine ⟨d1, d2, fun l hl => ?_⟩
      obtain ⟨y1, y2⟩ := ca (g * 10 + l) (by omega)
      rw [y1, y2]
      exact d4 l hl
  · rw [c9 9 (by omega) (by omega), X _ (by omega)]; exact i
  · rw [c9 10 (by omega) (by omega), X _ (by omega)]; exact j
  · rw [c9 11 (by omega) (by omega), X _ (by omega)]; exact k
theorem c_setPath {C : Nat → Nat → Bool} (hc : ∀ l, l < 10 → h.1 (p + 2) l = nI (mk (C l) 20)) (hf : f < 20) {m : Nat} (hm : m < 1024) : ∃ h2, fX0_setPath p (nI f) (nI m) h = some ((), h2) ∧ (∀ l, l < 10 → h2.1 (p + 2) l = nI (mk (fun g => if g = f then m.testBit l else C l g) 20)) ∧ h2.1 (p + 4) f = nI m ∧ (∀ g, g ≠ f → h2.1 (p + 4) g = h.1 (p + 4) g) ∧ h2.1 p 8 = h.1 p 8 + 1 ∧ (∀ j, j ≠ 8 → h2.1 p j = h.1 p j) ∧ (∀ c, c ≠ p → c ≠ p + 2 → c ≠ p + 4 → h2.1 c = h.1 c) ∧ h2.2 = h.2 := by
  have key : ∀ d l fu h1, l + d = 10 → d < fu → (∀ j, j < l → h1.1 (p + 2) j = nI (mk (fun g => if g = f then m.testBit j else C j g) 20)) → (∀ j, l ≤ j → h1.1 (p + 2) j = h.1 (p + 2) j) → h1.1 (p + 4) f = nI m → (∀ g, g ≠ f → h1.1 (p + 4) g = h.1 (p + 4) g) → (∀ c, c ≠ p + 2 → c ≠ p + 4 → h1.1 c = h.1 c) → h1.2 = h.2 → ∃ h2, fX0_setPath_c9 p fu (nI f) (nI l) h1 = some ((), h2) ∧ (∀ l, l < 10 → h2.1 (p + 2) l = nI (mk (fun g => if g = f then m.testBit l else C l g) 20)) ∧ h2.1 (p + 4) f = nI m ∧ (∀ g, g ≠ f → h2.1 (p + 4) g = h.1 (p + 4) g) ∧ h2.1 p 8 = h.1 p 8 + 1 ∧ (∀ j, j ≠ 8 → h2.1 p j = h.1 p j) ∧ (∀ c, c ≠ p → c ≠ p + 2 → c ≠ p + 4 → h2.1 c = h.1 c) ∧ h2.2 = h.2 := by
    intro d
    induction d with
    | zero =>
      intro l fu h1 hl hfu P1 P2 P3 P4 P5 P6
      obtain ⟨fu, rfl⟩ : ∃ z, fu = z + 1 := ⟨fu - 1, by omega⟩
      obtain rfl : l = 10 := by omega
      rw [fX0_setPath_c9, if_neg (by decide), e_st]
      refine ⟨_, rfl, fun l hl => ?_, ?_, fun g hg => ?_, ?_, fun j hj => ?_, fun c c1 c2 c3 => ?_, P6⟩
      · rw [up_cell (by omega)]; exact P1 l hl
      · rw [up_cell (by omega)]; exact P3
      · rw [up_cell (by omega)]; exact P4 g hg
      · rw [up_same, P5 p (by omega) (by omega)]
      · rw [up_at, if_neg (by omega), P5 p (by omega) (by omega)]
      · rw [up_cell c1, P5 c c2 c3]
    | succ d ih =>
      intro l fu h1 hl hfu P1 P2 P3 P4 P5 P6
      obtain ⟨fu, rfl⟩ : ∃ z, fu = z + 1 := ⟨fu - 1, by omega⟩
      have hl2 : l < 10 := by omega
      have go : fX0_goesOver p (nI f) (nI l) h1 = some (if m.testBit l = true then 1 else 0, h1) := by
        unfold fX0_goesOver
        rw [e_rd hf (by omega), P3, e_bit (by omega) (by omega), ic e_c0]
        by_cases c : m.testBit l = true
        · rw [if_neg (not_not_intro c), if_pos c]
        · rw [if_pos c, if_neg c]
      rw [fX0_setPath_c9, if_pos (show nI l < (10 : Int32) from nI_lt (a := l) (b := 10) hl2 (by omega)), e_rd hl2 (by omega), P2 l (Nat.le_refl l), hc l hl2, go, e_bd, ic e_c0, off_bit hf, on_bit hf, e_wr hl2 (by omega), e_wr hl2 (by omega), nI_1]
      have step : ∀ b : Bool, m.testBit l = b → ∀ A : Nat → Bool, (∀ g, A g = if g = f then b else C l g) → ∃ h2, fX0_setPath_c9 p fu (nI f) (nI (l + 1)) (th_up h1 (p + 2) l (nI (mk A 20))) = some ((), h2) ∧ (∀ l, l < 10 → h2.1 (p + 2) l = nI (mk (fun g => if g = f then m.testBit l else C l g) 20)) ∧ h2.1 (p + 4) f = nI m ∧ (∀ g, g ≠ f → h2.1 (p + 4) g = h.1 (p + 4) g) ∧ h2.1 p 8 = h.1 p 8 + 1 ∧ (∀ j, j ≠ 8 → h2.1 p j = h.1 p j) ∧ (∀ c, c ≠ p → c ≠ p + 2 → c ≠ p + 4 → h2.1 c = h.1 c) ∧ h2.2 = h.2 := by
        intro b hb A hA
        refine ih (l + 1) fu _ (by omega) (by omega) (fun j hj => ?_) (fun j hj => ?_) (by rw [up_cell (by omega)]; exact P3) (fun g hg => by rw [up_cell (by omega)]; exact P4 g hg) (fun c c1 c2 => by rw [up_cell c1]; exact P5 c c1 c2) P6
        · rw [up_at]
          by_cases z : j = l
          · rw [if_pos ⟨rfl, z⟩, z, hb]
            exact congrArg nI (mk_cong (fun g _ => hA g))
          · rw [if_neg (fun y => z y.2)]; exact P1 j (by omega)
        · rw [up_at, if_neg (by omega)]; exact P2 j (by omega)
      by_cases c : m.testBit l = true
      · rw [if_neg (not_not_intro c)]
        exact step true c _ (fun g => by
          by_cases z : g = f
          · simp [z]
          · have z2 : (g == f) = false := by simpa using z
            rw [if_neg z, z2]
            simp)
      · rw [if_pos c]
        exact step false (by simpa using c) _ (fun g => by
          by_cases z : g = f
          · simp [z]
          · simp [z])
  unfold fX0_setPath
  rw [e_wr hf (by omega)]
  exact key 10 0 1000 _ (by omega) (by omega) (fun j hj => absurd hj (Nat.not_lt_zero j)) (fun j _ => by rw [up_cell (by omega)]) up_same (fun g hg => by rw [up_at, if_neg (fun y => hg y.2)]) (fun c c1 c2 => up_cell c2) rfl
end
