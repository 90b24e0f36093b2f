/-! ===== a round of the class ===== -/
/-- a letter writes its own flow's numbers alone -/
def OwnK (f k : Nat) : Prop := (∃ j, j < 10 ∧ k = 243 + 10 * f + j) ∨ (∃ j, j < 10 ∧ k = 443 + 10 * f + j) ∨ k = 23 + 11 * f + 7
section
variable {q : Nat} {h h2 : th_H} {G G' : GR}
theorem gFw_own {f : Nat} : ∀ d l u (G : GR), l + d = 10 → ∀ k, 23 ≤ k → ¬ OwnK f k → (gFw f d l u G).2 k = G k := by
  intro d
  induction d with
  | zero => intro l u G _ k _ _; rfl
  | succ d ih =>
    intro l u G hl k hk hn
    have n1 : k ≠ 243 + 10 * f + l := fun e => hn (Or.inl ⟨l, by omega, e⟩)
    rw [gFw]
    by_cases c : gOv G f l = true
    · rw [if_pos c]
      unfold gForth
      by_cases c3 : 0 < G (13 + l)
      · rw [if_pos c3]
        show gu _ _ _ k = _
        rw [gu_ne (by omega), gu_ne (by omega), gu_ne n1]
      · rw [if_neg c3]
        show (gFw f d (l + 1) _ _).2 k = _
        rw [ih (l + 1) _ _ (by omega) k hk hn, gu_ne n1]
    · rw [if_neg c]
      exact ih (l + 1) u G (by omega) k hk hn
theorem gBw_own {f : Nat} : ∀ l v (G : GR), l ≤ 10 → ∀ k, ¬ OwnK f k → gBw f l v G k = G k := by
  intro l
  induction l with
  | zero => intro v G _ k _; rfl
  | succ l ih =>
    intro v G hl k hn
    have n1 : k ≠ 443 + 10 * f + l := fun e => hn (Or.inr (Or.inl ⟨l, by omega, e⟩))
    rw [gBw]
    by_cases c : gOv G f l = true
    · rw [if_pos c, ih _ _ (by omega) k hn]
      show gu G _ v k = _
      rw [gu_ne n1]
    · rw [if_neg c]
      exact ih v G (by omega) k hn
theorem gSend_own {f k : Nat} (hk : 23 ≤ k) (hn : ¬ OwnK f k) : gSend G f k = G k := by
  unfold gSend
  have h1 := gFw_own (f := f) 10 0 (gOwn G f) (gu G 0 (G 0 + 1)) (by omega) k hk hn
  rcases hq : gFw f 10 0 (gOwn G f) (gu G 0 (G 0 + 1)) with ⟨o, G1⟩
  rw [hq] at h1
  have h3 : G1 k = G k := by
    have h2 : G1 k = gu G 0 (G 0 + 1) k := h1
    rw [h2, gu_ne (by omega)]
  cases o with
  | none => exact h3
  | some u =>
    show gBw f 10 1000000 (gu G1 (23 + 11 * f + 7) u) k = _
    rw [gBw_own 10 _ _ (by omega) k hn, gu_ne (fun e => hn (Or.inr (Or.inr e)))]
    exact h3
theorem gRd_own : ∀ n, n ≤ 20 → ∀ k, 23 ≤ k → (∀ f, f < n → ¬ OwnK f k) → gRd n G k = G k := by
  intro n
  induction n with
  | zero => intro _ k _ _; rfl
  | succ n ih =>
    intro hn k hk hf
    rw [gRd]
    split
    · rw [gSend_own hk (hf n (by omega))]
      exact ih (by omega) k hk (fun f h1 => hf f (by omega))
    · exact ih (by omega) k hk (fun f h1 => hf f (by omega))
theorem c_isHeld (R : RQ q h G) {f : Nat} (hf : f < 20) : fX1_isHeld q (nI f) h = some (bI (gTh G f && gHeld G f == 1), h) := by
  unfold fX1_isHeld
  rw [R.2.2.2.2.2.1, e_bit (mk20 _) (by omega), ic e_c0, mk20_bit _ hf]
  cases c : (gTh G f && gHeld G f == 1)
  · rw [if_pos (by simp)]; rfl
  · rw [if_neg (by simp)]; rfl
/-- held or not: by 0 and 1 -/
def IH (G : GR) : Prop := ∀ f, f < 20 → gTh G f = true → gHeld G f ≤ 1
theorem c_goRound (R : RQ q h G) (A : IA G) (O : OC q h G) (H : IH G) : ∃ h2, fX1_goRound q h = some (bI (gQuiet G (gRound G)), h2) ∧ RQ q h2 (gRound G) ∧ OC q h2 (gRound G) ∧ PZ q h h2 := by
  have key : ∀ d i fu h1, i + d = 20 → d < fu → CP q h h1 G (gRd i G) → ∃ h2, fX1_goRound_c7 q fu (nI i) h1 = some (bI (gQuiet G (gRound G)), h2) ∧ RQ q h2 (gRound G) ∧ OC q h2 (gRound G) ∧ PZ q h h2 := by
    intro d
    induction d with
    | zero =>
      intro i fu h1 hi hfu C
      obtain ⟨k, rfl⟩ : ∃ k, fu = k + 1 := ⟨fu - 1, by omega⟩
      rw [show i = 20 by omega] at C ⊢
      rw [fX1_goRound_c7, if_neg (by decide), e_st, C.1.2.2.2.2.2.2.2.1, nI_1]
      have R1 : RQ q (th_up h1 q 10 (nI (gRd 20 G 1 + 1))) (gRound G) := C.1.count (k := 1) (by omega) rfl
      have O1 : OC q (th_up h1 q 10 (nI (gRd 20 G 1 + 1))) (gRound G) := C.2.1.keep (by rw [up_at, if_neg (by omega)]) (by rw [up_cell (by omega)]) (by rw [up_cell (by omega)]) (fun l hl => gAdv_other (Or.inr (Or.inr (Or.inl (by omega)))) hl)
      have T1 : STR q (th_up h1 q 10 (nI (gRd 20 G 1 + 1))) G (gRound G) := C.2.2.2.off (notLT_small (by omega)) (by rw [up_at, if_neg (by omega)])
      have Z1 : PZ q h (th_up h1 q 10 (nI (gRd 20 G 1 + 1))) := C.2.2.1.up (Or.inl rfl)
      have hb : (th_up h1 q 10 (nI (gRd 20 G 1 + 1))).1 q 15 = 0 ↔ gQuiet G (gRound G) = true := T1.2.trans SM_quiet.symm
      cases c : gQuiet G (gRound G)
      · rw [if_neg (fun z => by have := hb.mp z; rw [c] at this; cases this)]
        exact ⟨_, rfl, R1, O1, Z1⟩
      · rw [if_pos (hb.mpr c)]
        exact ⟨_, rfl, R1, O1, Z1⟩
    | succ d ih =>
      intro i fu h1 hi hfu C
      obtain ⟨k, rfl⟩ : ∃ k, fu = k + 1 := ⟨fu - 1, by omega⟩
      have hi2 : i < 20 := by omega
      obtain ⟨A1, S1⟩ := gRd_ok A i (by omega)
      have e : gRd (i + 1) G = if gTh G i = true ∧ gHeld G i = 0 then gSend (gRd i G) i else gRd i G := rfl
      rw [fX1_goRound_c7, if_pos (show nI i < (20 : Int32) from nI_lt (a := i) (b := 20) hi2 (by omega)), c_has C.1.1 hi2, e_bd, ic e_c0, S1.th hi2, nI_1]
      by_cases c : gTh G i = true
      · rw [if_neg (not_not_intro c), c_isHeld C.1 hi2, e_bd, ic (bI_0 _), S1.th hi2, S1.held hi2, c, Bool.true_and]
        have hH := H i hi2 c
        by_cases c2 : gHeld G i = 0
        · rw [if_pos (by rw [c2]; rfl)]
          rw [if_pos ⟨c, c2⟩] at e
          have own : ∀ k, OwnK i k → gRd i G k = G k := by
            intro k hk
            refine gRd_own i (by omega) k ?_ (fun f hf hk2 => ?_)
            · rcases hk with ⟨j, a, b⟩ | ⟨j, a, b⟩ | b <;> omega
            · rcases hk with ⟨j, a, b⟩ | ⟨j, a, b⟩ | b <;> rcases hk2 with ⟨j2, a2, b2⟩ | ⟨j2, a2, b2⟩ | b2 <;> omega
          obtain ⟨h2, q2, C2⟩ := c_send C A1 hi2 (by rw [S1.th hi2]; exact c) ⟨fun j _ hj => own _ (Or.inl ⟨j, hj, rfl⟩), own _ (Or.inr (Or.inr rfl)), fun j hj => own _ (Or.inr (Or.inl ⟨j, hj, rfl⟩))⟩
          rw [q2, e_bd]
          exact ih (i + 1) k h2 (by omega) (by omega) (by rw [e]; exact C2)
        · rw [if_neg (by rw [show gHeld G i = 1 by omega]; decide)]
          rw [if_neg (fun z => c2 z.2)] at e
          exact ih (i + 1) k h1 (by omega) (by omega) (by rw [e]; exact C)
      · rw [if_pos c]
        rw [if_neg (fun z => c z.1)] at e
        exact ih (i + 1) k h1 (by omega) (by omega) (by rw [e]; exact C)
  unfold fX1_goRound
  rw [e_st]
  have P0 : PS q h (th_up h q 15 0) ∨ True := Or.inr trivial
  have Z0 : PZ q h (th_up h q 15 0) := PZ.rf.up (Or.inl rfl)
  have R0 : RQ q (th_up h q 15 0) G := by
    obtain ⟨a, b, c, d, e, g, i, j, m⟩ := R
    refine RQ.re ⟨a, b, c, d, e, g, i, j, m⟩ SP.rf Z0 (fun l hl => by rw [up_cell (by omega)]; exact c l hl) (fun f hf ht => ?_) (fun f hf ht => ?_) ?_ ?_ ?_ ?_
    · rw [up_cell (by omega), up_cell (by omega), up_cell (by omega), up_cell (by omega), up_cell (by omega), up_cell (by omega)]; exact d f hf ht
    · rw [up_cell (by omega), up_cell (by omega), up_cell (by omega), up_cell (by omega)]; exact e f hf ht
    · rw [up_at, if_neg (by omega)]
    · rw [up_at, if_neg (by omega)]; exact i
    · rw [up_at, if_neg (by omega)]; exact j
    · rw [up_at, if_neg (by omega)]; exact m
  have O0 : OC q (th_up h q 15 0) G := O.keep (by rw [up_at, if_neg (by omega)]) (by rw [up_cell (by omega)]) (by rw [up_cell (by omega)]) (fun _ _ => rfl)
  exact key 20 0 1000 _ (by omega) (by omega) ⟨R0, O0, Z0, trivial, ⟨fun _ _ _ => rfl, fun _ => up_same⟩⟩
end
