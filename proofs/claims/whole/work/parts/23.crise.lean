section
variable {p w : Nat} {h : th_H} {G : GR} {v : LV}
/-- while a step fixes flows -/
def QX (G : GR) (v : LV) (w k : Nat) (h0 h : th_H) (i : Nat) : Prop :=
  (∀ c, c ≠ w + 1 → c ≠ w + 2 → c ≠ w + 3 → h.1 c = h0.1 c) ∧ h.2 = h0.2 ∧
  ∀ f, f < 20 → (f < i → fX G v f = true → h.1 (w + 1) f = nI (fS G v) ∧ h.1 (w + 2) f = nI (fWit G v f) ∧ h.1 (w + 3) f = nI k) ∧ ((i ≤ f ∨ fX G v f = false) → h.1 (w + 1) f = h0.1 (w + 1) f ∧ h.1 (w + 2) f = h0.1 (w + 2) f ∧ h.1 (w + 3) f = h0.1 (w + 3) f)
theorem c_fix {h0 : th_H} (R : RP p h0 G) (I : IQ G) (hw : p + 8 ≤ w) {k : Nat} (hk : k < 20) (h4 : h0.1 (w + 4) k = nI (fS G v)) (h6 : h0.1 (w + 6) k = nI (mk (fK G v) 10)) : ∃ h2, fX2_fix w p (nI (mk (fX G v) 20)) (nI k) h0 = some ((), h2) ∧ QX G v w k h0 h2 20 := by
  have key : ∀ d i fu h, i + d = 20 → d < fu → QX G v w k h0 h i → ∃ h2, fX2_fix_c2 w p fu (nI (mk (fX G v) 20)) (nI k) (nI i) h = some ((), h2) ∧ QX G v w k h0 h2 20 := by
    intro d
    induction d with
    | zero =>
      intro i fu h hi hfu P
      obtain ⟨j, rfl⟩ : ∃ j, fu = j + 1 := ⟨fu - 1, by omega⟩
      rw [show i = 20 by omega] at P ⊢
      exact ⟨h, by rw [fX2_fix_c2, if_neg (by decide)], P⟩
    | succ d ih =>
      intro i fu h hi hfu P
      obtain ⟨j, rfl⟩ : ∃ j, fu = j + 1 := ⟨fu - 1, by omega⟩
      have hi2 : i < 20 := by omega
      obtain ⟨P1, P2, P3⟩ := P
      rw [fX2_fix_c2, if_pos (show nI i < (20 : Int32) from nI_lt (a := i) (b := 20) hi2 (by omega)), e_bit (mk20 _) (by omega), ic e_c0, mk20_bit _ hi2, nI_1]
      by_cases c : fX G v i = true
      · have ht := (fOp_th (fX_op c)).1
        obtain ⟨p1, p2, p3⟩ := path_and I hi2 ht (fK G v)
        have hwit : fa_first (gPath G i &&& mk (fK G v) 10).testBit 10 = fWit G v i := p3
        have fin : ∀ y, y = nI (fWit G v i) → QX G v w k h0 (th_up (th_up (th_up h (w + 1) i (nI (fS G v))) (w + 3) i (nI k)) (w + 2) i y) (i + 1) := by
          intro y hy
          refine ⟨fun cc a b d => ?_, P2, fun f hf => ⟨fun z1 z2 => ?_, fun z => ?_⟩⟩
          · rw [up_cell b, up_cell d, up_cell a]; exact P1 cc a b d
          · by_cases q : f = i
            · subst q
              refine ⟨?_, ?_, ?_⟩
              · rw [up_cell (by omega), up_cell (by omega), up_same]
              · rw [up_same, hy]
              · rw [up_cell (by omega), up_same]
            · obtain ⟨a, b, d⟩ := (P3 f hf).1 (by omega) z2
              refine ⟨?_, ?_, ?_⟩
              · rw [up_cell (by omega), up_cell (by omega), up_at, if_neg (fun z => q z.2)]; exact a
              · rw [up_at, if_neg (fun z => q z.2), up_cell (by omega), up_cell (by omega)]; exact b
              · rw [up_cell (by omega), up_at, if_neg (fun z => q z.2), up_cell (by omega)]; exact d
          · have q : f ≠ i := fun e => by
              rcases z with z | z
              · omega
              · rw [e, c] at z; cases z
            obtain ⟨a, b, d⟩ := (P3 f hf).2 (z.elim (fun y => Or.inl (by omega)) Or.inr)
            refine ⟨?_, ?_, ?_⟩
            · rw [up_cell (by omega), up_cell (by omega), up_at, if_neg (fun z => q z.2)]; exact a
            · rw [up_at, if_neg (fun z => q z.2), up_cell (by omega), up_cell (by omega)]; exact b
            · rw [up_cell (by omega), up_at, if_neg (fun z => q z.2), up_cell (by omega)]; exact d
        have e6 : (th_up (th_up h (w + 1) i (nI (fS G v))) (w + 3) i (nI k)).1 (w + 6) k = nI (mk (fK G v) 10) := by rw [up_cell (by omega), up_cell (by omega), P1 _ (by omega) (by omega) (by omega)]; exact h6
        have ep : (th_up (th_up h (w + 1) i (nI (fS G v))) (w + 3) i (nI k)).1 (p + 4) i = nI (gPath G i) := by rw [up_cell (by omega), up_cell (by omega), P1 _ (by omega) (by omega) (by omega), R.2.2.1 i hi2, if_pos ht]
        rw [if_neg (not_not_intro c), e_rd hk (by omega), P1 _ (by omega) (by omega) (by omega), h4, e_wr hi2 (by omega), e_wr hi2 (by omega), e_rd hi2 (by omega), ep, e_rd hk (by omega), e6, fa_and, ic (e_eql (n := 0) (show gPath G i &&& mk (fK G v) 10 < 2147483648 by omega) (by decide))]
        by_cases c3 : gPath G i &&& mk (fK G v) 10 = 0
        · rw [if_pos (show gPath G i &&& mk (fK G v) 10 = (OfNat.ofNat 0 : Nat) from c3), e_wr hi2 (by omega)]
          refine ih (i + 1) j _ (by omega) (by omega) (fin 10 ?_)
          have : fWit G v i = 10 := by
            rw [← hwit, c3]
            exact first_eq (Nat.le_refl _) (fun j _ => Nat.zero_testBit j) (Or.inl rfl)
          rw [this]
          rfl
        · rw [if_neg (show ¬ gPath G i &&& mk (fK G v) 10 = (OfNat.ofNat 0 : Nat) from c3), c_ntz c3 p1, e_bd, e_wr hi2 (by omega)]
          exact ih (i + 1) j _ (by omega) (by omega) (fin _ (by rw [hwit]))
      · rw [if_pos c]
        have c2 : fX G v i = false := by simpa using c
        refine ih (i + 1) j h (by omega) (by omega) ⟨P1, P2, fun f hf => ⟨fun z1 z2 => ?_, fun z => ?_⟩⟩
        · have q : f ≠ i := fun e => by rw [e, c2] at z2; cases z2
          exact (P3 f hf).1 (by omega) z2
        · exact (P3 f hf).2 (z.elim (fun y => Or.inl (by omega)) Or.inr)
  exact key 20 0 1000 h0 (by omega) (by omega) ⟨fun _ _ _ _ => rfl, rfl, fun f _ => ⟨fun z => absurd z (Nat.not_lt_zero f), fun _ => ⟨rfl, rfl, rfl⟩⟩⟩
/-- the class's water behind k steps -/
def FW (w : Nat) (G : GR) (k : Nat) (h : th_H) : Prop := h.1 w 8 = nI k ∧ WS w h (fV G k) ∧ (∀ j, j < k → h.1 (w + 4) j = nI (fS G (fV G j)) ∧ h.1 (w + 5) j = nI (mk (fX G (fV G j)) 20) ∧ h.1 (w + 6) j = nI (mk (fK G (fV G j)) 10)) ∧ ∀ j f, j < k → f < 20 → fX G (fV G j) f = true → h.1 (w + 2) f = nI (fWit G (fV G j) f) ∧ h.1 (w + 3) f = nI j
theorem fV_JJ (I : IQ G) (B : IB G) {k : Nat} (hk : k ≤ fSteps G) : JJ G (fV G k) := by
  rcases (fV_J0 I B k hk).2 with rfl | ⟨j, rfl, hJ⟩
  · exact Or.inl (fun _ => rfl)
  · exact Or.inr ⟨_, fS_le I (fSteps_go (G := G) (k := j) (by omega)), hJ⟩
theorem c_rise_c50 (I : IQ G) (B : IB G) (hw : p + 8 ≤ w) {h0 : th_H} (R0 : RP p h0 G) : ∃ N, N = fSteps G ∧ ∀ d k fu h, k + d = N → d < fu → FW w G k h → WZ w h0 h → h.1 w 9 = h0.1 w 9 → ∃ h2, fX2_rise_c50 w p fu (nI (mk (fOp G (fV G k)) 20)) (nI k) h = some ((), h2) ∧ FW w G N h2 ∧ WZ w h0 h2 ∧ h2.1 w 9 = h0.1 w 9 := by
  have hle20 := fSteps_le (G := G)
  have hend := fSteps_end I
  refine ⟨fSteps G, rfl, ?_⟩
  have hgo0 : ∀ k, k < fSteps G → k < fSteps G := fun _ z => z
  generalize hN : fSteps G = N at hle20 hend ⊢
  have hgo : ∀ k, k < N → k < fSteps G := fun k z => by rw [hN]; exact z
  intro d
  induction d with
  | zero =>
    intro k fu h hk hfu F Z S9
    obtain ⟨j, rfl⟩ : ∃ j, fu = j + 1 := ⟨fu - 1, by omega⟩
    have e : k = N := by omega
    subst e
    refine ⟨h, ?_, F, Z, S9⟩
    rw [fX2_rise_c50]
    by_cases c : k < 20
    · rw [if_pos (show nI k < (20 : Int32) from nI_lt (a := k) (b := 20) c (by omega)), if_pos]
      have : mk (fOp G (fV G k)) 20 = 0 := (bits0 (mk_lt _ 20)).mpr (fun i hi => by
        rw [mk20_bit _ hi]
        cases q : fOp G (fV G k) i
        · rfl
        · have := fAny_iff.mpr ⟨i, hi, q⟩
          rw [hend] at this
          cases this)
      rw [this]
      rfl
    · rw [if_neg (show ¬ nI k < (20 : Int32) from nI_nlt (b := 20) (by omega) (by omega))]
  | succ d ih =>
    intro k fu h hk hfu F Z S9
    obtain ⟨j, rfl⟩ : ∃ j, fu = j + 1 := ⟨fu - 1, by omega⟩
    have hk2 : k < fSteps G := hgo k (by omega)
    have hk20 : k < 20 := by omega
    have ha := fSteps_go hk2
    have hs := fS_le I ha
    have bv := fV_bv I B k (by omega)
    have J := fV_JJ (k := k) I B (by omega)
    have R := Z.rp hw R0
    obtain ⟨F1, F2, F3, F4⟩ := F
    have hne : mk (fOp G (fV G k)) 20 ≠ 0 := fun z => by
      obtain ⟨f, hf, q⟩ := fAny_iff.mp ha
      have := (bits0 (mk_lt _ 20)).mp z f hf
      rw [mk20_bit _ hf, q] at this
      cases this
    rw [fX2_rise_c50, if_pos (show nI k < (20 : Int32) from nI_lt (a := k) (b := 20) hk20 (by omega)), if_neg (nI_ne0 (by omega) (mk20 _))]
    have hv1 : fV G (k + 1) = fN G (fV G k) := rfl
    have honce : ∀ jj f, jj < k → f < 20 → fX G (fV G jj) f = true → fX G (fV G k) f = false := fun jj f a b c => fX_once a b c
    generalize hv : fV G k = v at ha hs bv J hne F2 hv1 honce ⊢
    obtain ⟨h1, q1, T1, C1, L1⟩ := c_nextSurface R I B hw F2 bv J ha
    have R1 : RP p h1 G := R.off (fun c x y _ => C1 c (by omega)) (by rw [C1 p (by omega)])
    rw [q1, e_bd, c_linksAt T1 rfl hs, e_bd, c_fixedBy R1 I rfl hs, e_bd, e_wr hk20 (by omega), e_wr hk20 (by omega), e_wr hk20 (by omega)]
    generalize hh : th_up (th_up (th_up h1 (w + 4) k (nI (fS G v))) (w + 6) k (nI (mk (fK G v) 10))) (w + 5) k (nI (mk (fX G v) 20)) = h2
    have C2 : ∀ c, c ≠ w + 4 → c ≠ w + 5 → c ≠ w + 6 → c ≠ w + 7 → h2.1 c = h.1 c := fun c a b d e => by rw [← hh, up_cell b, up_cell d, up_cell a, C1 c e]
    have R2 : RP p h2 G := R.off (fun c x y _ => C2 c (by omega) (by omega) (by omega) (by omega)) (by rw [C2 p (by omega) (by omega) (by omega) (by omega)])
    have g4 : h2.1 (w + 4) k = nI (fS G v) := by rw [← hh, up_cell (by omega), up_cell (by omega), up_same]
    have g5 : h2.1 (w + 5) k = nI (mk (fX G v) 20) := by rw [← hh, up_same]
    have g6 : h2.1 (w + 6) k = nI (mk (fK G v) 10) := by rw [← hh, up_cell (by omega), up_same]
    have o4 : ∀ jj, jj ≠ k → h2.1 (w + 4) jj = h.1 (w + 4) jj := fun jj hj => by rw [← hh, up_cell (by omega), up_cell (by omega), up_at, if_neg (fun z => hj z.2), C1 _ (by omega)]
    have o5 : ∀ jj, jj ≠ k → h2.1 (w + 5) jj = h.1 (w + 5) jj := fun jj hj => by rw [← hh, up_at, if_neg (fun z => hj z.2), up_cell (by omega), up_cell (by omega), C1 _ (by omega)]
    have o6 : ∀ jj, jj ≠ k → h2.1 (w + 6) jj = h.1 (w + 6) jj := fun jj hj => by rw [← hh, up_cell (by omega), up_at, if_neg (fun z => hj z.2), up_cell (by omega), C1 _ (by omega)]
    obtain ⟨h3, q3, Q1, Q2, Q3⟩ := c_fix (v := v) R2 I hw hk20 g4 g6
    rw [q3, e_bd, e_st, nI_1, not_bits]
    have eo : mk (fun f => fOp G v f && !fX G v f) 20 = mk (fOp G (fV G (k + 1))) 20 := mk_cong (fun f hf => by rw [hv1, fN_op hf])
    rw [eo]
    have L2 : h2.2 = h.2 := by rw [← hh]; exact L1
    refine ih (k + 1) j _ (by omega) (by omega) ⟨up_same, fun f hf => ?_, fun jj hj => ?_, fun jj f hj hf hx => ?_⟩ ⟨fun c hc => ?_, ?_⟩ ?_
    · rw [up_cell (by omega), hv1]
      unfold fN
      by_cases c : fX G v f = true
      · rw [if_pos ⟨hf, c⟩, ((Q3 f hf).1 hf c).1]
        rfl
      · have c2 : fX G v f = false := by simpa using c
        rw [if_neg (fun z => c z.2), ((Q3 f hf).2 (Or.inr c2)).1, C2 _ (by omega) (by omega) (by omega) (by omega)]
        exact F2 f hf
    · rw [up_cell (by omega), up_cell (by omega), up_cell (by omega), Q1 _ (by omega) (by omega) (by omega), Q1 _ (by omega) (by omega) (by omega), Q1 _ (by omega) (by omega) (by omega)]
      by_cases e : jj = k
      · subst e
        rw [hv]
        exact ⟨g4, g5, g6⟩
      · rw [o4 jj e, o5 jj e, o6 jj e]
        exact F3 jj (by omega)
    · rw [up_cell (by omega), up_cell (by omega)]
      by_cases e : jj = k
      · subst e
        rw [hv] at hx ⊢
        exact ((Q3 f hf).1 hf hx).2
      · have h4 := honce jj f (by omega) hf hx
        obtain ⟨-, a, b⟩ := (Q3 f hf).2 (Or.inr h4)
        rw [a, b, C2 _ (by omega) (by omega) (by omega) (by omega), C2 _ (by omega) (by omega) (by omega) (by omega)]
        exact F4 jj f (by omega) hf hx
    · rw [up_cell (by omega), Q1 c (by omega) (by omega) (by omega), C2 c (by omega) (by omega) (by omega) (by omega)]
      exact Z.1 c hc
    · show h3.2 = h0.2
      rw [Q2, L2]
      exact Z.2
    · rw [up_at, if_neg (by omega), Q1 w (by omega) (by omega) (by omega), C2 w (by omega) (by omega) (by omega) (by omega)]
      exact S9
/-- the class's water is that of the plan -/
def FWt (w : Nat) (G : GR) (h : th_H) : Prop := FW w G (fSteps G) h
theorem c_rise (R : RP p h G) (I : IQ G) (B : IB G) (hw : p + 8 ≤ w) (hc : h.1 w 9 = h.1 p 8 → FWt w G h) : ∃ h2, fX2_rise w p h = some ((), h2) ∧ FWt w G h2 ∧ h2.1 w 9 = h2.1 p 8 ∧ WZ w h h2 := by
  unfold fX2_rise
  by_cases c : h.1 w 9 = h.1 p 8
  · rw [if_pos c]
    exact ⟨h, rfl, hc c, c, WZ.rf⟩
  · rw [if_neg c, e_st]
    obtain ⟨h1, q1, P1, P2, P3⟩ := c_fill (a := w + 1) (na := 20) (by omega) 1000000 (th_up h w 9 (h.1 p 8))
    rw [q1, e_bd, e_st]
    have Z1 : WZ w h (th_up h1 w 8 0) := by
      have Z0 : WZ w h h1 := ⟨fun d y => by rw [P2 d (by omega), up_cell (by omega)], P3⟩
      exact Z0.up (Nat.le_refl _) (by omega)
    have R1 : RP p (th_up h1 w 8 0) G := Z1.rp hw R
    obtain ⟨N, hN, key⟩ := c_rise_c50 I B hw R1
    have hN20 : N ≤ 20 := by rw [hN]; exact fSteps_le
    have e0 : mk (gTh G) 20 = mk (fOp G (fV G 0)) 20 := mk_cong (fun f _ => by simp [fOp, fV])
    rw [R1.2.2.2.2, e0]
    obtain ⟨h2, q2, F2, Z2, S9⟩ := key N 0 1000 _ (by omega) (by omega) ⟨up_same, fun f hf => by rw [up_cell (by omega), P1 f hf]; rfl, fun j hj => absurd hj (Nat.not_lt_zero j), fun j f hj => absurd hj (Nat.not_lt_zero j)⟩ WZ.rf rfl
    refine ⟨h2, q2, ?_, ?_, Z1.tr Z2⟩
    · unfold FWt
      rw [← hN]
      exact F2
    · have a1 : (th_up h1 w 8 0).1 w 9 = h.1 p 8 := by rw [up_at, if_neg (by omega), P2 w (by omega), up_same]
      have a2 : (th_up h1 w 8 0).1 p 8 = h.1 p 8 := by rw [Z1.1 p (by omega)]
      rw [S9, a1, Z2.1 p (by omega), a2]
end
