section
variable {h : th_H} {G : GR} {v : LV}
theorem m_fix_c217 {h0 : th_H} {k s : Nat} (L : LVL h0 v) (hk : k < 20) (hst : h0.1 0 13 = nI k) (hm : h0.1 11 k = nI (mk (fX G v) 20)) (hs : fS G v = s) : ∃ h2, fX4_fix_c217 1000 (nI s) 0 h0 = some (nI (fb_ct (fX G v) 20), h2) ∧ LVL h2 (fN G v) ∧ h2.1 0 13 = nI (k + 1) ∧ (∀ c, c ≠ 0 → c ≠ 7 → h2.1 c = h0.1 c) ∧ (∀ j, j ≠ 13 → h2.1 0 j = h0.1 0 j) ∧ h2.2 = h0.2 := by
  have key : ∀ d i fu h, i + d = 20 → d < fu → (∀ f, f < 20 → h.1 7 f = enc (if f < i then fN G v f else v f)) → (∀ c, c ≠ 7 → h.1 c = h0.1 c) → h.2 = h0.2 → ∃ h2, fX4_fix_c217 fu (nI s) (nI i) h = some (nI (fb_ct (fX G v) 20), h2) ∧ LVL h2 (fN G v) ∧ h2.1 0 13 = nI (k + 1) ∧ (∀ c, c ≠ 0 → c ≠ 7 → h2.1 c = h0.1 c) ∧ (∀ j, j ≠ 13 → h2.1 0 j = h0.1 0 j) ∧ h2.2 = h0.2 := by
    intro d
    induction d with
    | zero =>
      intro i fu h hi hfu P1 P2 P3
      obtain ⟨j, rfl⟩ : ∃ j, fu = j + 1 := ⟨fu - 1, by omega⟩
      rw [show i = 20 by omega] at P1 ⊢
      have e1 : h.1 0 13 = nI k := by rw [P2 0 (by omega)]; exact hst
      rw [fX4_fix_c217, if_neg (by decide), e_st, e1, nI_1, up_same, e_subl (by omega), show k + 1 - 1 = k by omega, e_rd hk (by omega), up_cell (by omega), P2 11 (by omega), hm, m_ones (mk_lt _ 20), e_bd, mk_ct]
      refine ⟨_, rfl, fun f hf => ?_, up_same, fun c h1 h2 => ?_, fun jj h1 => ?_, P3⟩
      · rw [up_cell (by omega), P1 f hf, if_pos hf]
      · rw [up_cell h1]; exact P2 c h2
      · rw [up_at, if_neg (by omega), P2 0 (by omega)]
    | succ d ih =>
      intro i fu h hi hfu P1 P2 P3
      obtain ⟨j, rfl⟩ : ∃ j, fu = j + 1 := ⟨fu - 1, by omega⟩
      have hi2 : i < 20 := by omega
      have e1 : h.1 0 13 = nI k := by rw [P2 0 (by omega)]; exact hst
      have e2 : h.1 11 k = nI (mk (fX G v) 20) := by rw [P2 11 (by omega)]; exact hm
      have hb : (mk (fX G v) 20).testBit i = fX G v i := by rw [mk_bit]; simp [hi2]
      have hlt : mk (fX G v) 20 < 2147483648 := Nat.lt_trans (mk_lt _ 20) (by decide)
      have e7 : h.1 7 i = enc (v i) := by rw [P1 i hi2, if_neg (by omega)]
      rw [fX4_fix_c217, if_pos (show nI i < (20 : Int32) from nI_lt (a := i) (b := 20) (by omega) (by omega)), e1, e_rd hk (by omega), e2, e_bit hlt (by omega), ic e_c1, hb]
      by_cases c : fX G v i = true
      · rw [if_pos c, e_wr hi2 (by omega), nI_1]
        refine ih (i + 1) j _ (by omega) (by omega) (fun f hf => ?_) (fun cc h1 => by rw [up_cell h1]; exact P2 cc h1) P3
        rw [up_at]
        by_cases q : f = i
        · rw [if_pos ⟨rfl, q⟩, if_pos (by omega), q]
          unfold fN
          rw [if_pos ⟨hi2, c⟩, hs]
          rfl
        · rw [if_neg (fun z => q z.2), P1 f hf]
          by_cases z : f < i
          · rw [if_pos z, if_pos (by omega)]
          · rw [if_neg z, if_neg (by omega)]
      · rw [if_neg c, e_rd hi2 (by omega), e7, e_wr hi2 (by omega), up_self e7, nI_1]
        refine ih (i + 1) j h (by omega) (by omega) (fun f hf => ?_) P2 P3
        rw [P1 f hf]
        by_cases q : f = i
        · rw [if_neg (by omega), if_pos (by omega), q]
          unfold fN
          rw [if_neg (fun z => c z.2)]
        · by_cases z : f < i
          · rw [if_pos z, if_pos (by omega)]
          · rw [if_neg z, if_neg (by omega)]
  exact key 20 0 1000 h0 (by omega) (by omega) (fun f hf => by rw [if_neg (by omega)]; exact L f hf) (fun _ _ => rfl) rfl
/-- what FAIR has written behind k steps -/
def FM (G : GR) (k : Nat) (h : th_H) : Prop := h.1 0 13 = nI k ∧ LVL h (fV G k) ∧ (∀ j, j < k → h.1 10 j = nI (fS G (fV G j)) ∧ h.1 11 j = nI (mk (fX G (fV G j)) 20) ∧ h.1 12 j = nI (mk (fK G (fV G j)) 10)) ∧ ∀ j f, j < k → f < 20 → fX G (fV G j) f = true → h.1 8 f = nI (fWit G (fV G j) f) ∧ h.1 9 f = nI j
theorem fV_bv (I : IQ G) (B : IB G) : ∀ k, k ≤ fSteps G → BV (fV G k) := by
  intro k hk f x hx
  rcases (fV_J0 I B k hk).2 with rfl | ⟨j, rfl, hJ⟩
  · cases hx
  · have h1 := hJ.1 f x hx
    have h2 := fS_le I (fSteps_go (G := G) (k := j) (by omega))
    omega
/-- who is fixed stays, and is fixed once -/
theorem fX_once {k j f : Nat} (hj : j < k) (hf : f < 20) (h : fX G (fV G j) f = true) : fX G (fV G k) f = false := by
  have h1 : ∀ d, fV G (j + 1 + d) f = some (fS G (fV G j)) := by
    intro d
    induction d with
    | zero =>
      show fN G (fV G j) f = _
      unfold fN
      rw [if_pos ⟨hf, h⟩]
    | succ d ih =>
      show fN G (fV G (j + 1 + d)) f = _
      unfold fN
      rw [if_neg, ih]
      rintro ⟨-, h2⟩
      have := (fOp_th (fX_op h2)).2
      rw [ih] at this
      cases this
  have h2 := h1 (k - (j + 1))
  rw [show j + 1 + (k - (j + 1)) = k by omega] at h2
  cases c : fX G (fV G k) f
  · rfl
  · have := (fOp_th (fX_op c)).2
    rw [h2] at this
    cases this
theorem m_fix (R : RM h G) (I : IQ G) (B : IB G) {k : Nat} (hk : k < fSteps G) (F : FM G k h) (T : TD h G (fV G k)) : ∃ h2, fX4_fix (nI (fS G (fV G k))) h = some (nI (fb_ct (fX G (fV G k)) 20), h2) ∧ FM G (k + 1) h2 ∧ MZ h h2 := by
  have hk2 : k < 20 := Nat.lt_of_lt_of_le hk fSteps_le
  have ha := fSteps_go hk
  have hs := fS_le I ha
  have bv := fV_bv I B k (by omega)
  obtain ⟨F1, F2, F3, F4⟩ := F
  generalize hv : fV G k = v at ha hs bv F2 T ⊢
  unfold fX4_fix
  rw [F1, e_wr hk2 (by omega), up_cell (by omega), F1, e_wr hk2 (by omega), up_cell (by omega), up_cell (by omega), F1, e_wr hk2 (by omega)]
  have T1 : TD (th_up (th_up h 10 k (nI (fS G v))) 11 k 0) G v := fun l hl => by rw [up_cell (by omega), up_cell (by omega)]; exact T l hl
  have s1 : (th_up (th_up h 10 k (nI (fS G v))) 11 k 0).1 0 13 = nI k := by rw [up_cell (by omega), up_cell (by omega)]; exact F1
  rw [m_fix_c32 hk2 s1 T1 rfl hs]
  generalize hh : th_up (th_up (th_up h 10 k (nI (fS G v))) 11 k 0) 12 k (nI (mk (fK G v) 10)) = h1
  have c0 : ∀ c, c ≠ 10 → c ≠ 11 → c ≠ 12 → h1.1 c = h.1 c := fun c x y z => by rw [← hh, up_cell z, up_cell y, up_cell x]
  have R1 : RM h1 G := R.off (c0 2 (by omega) (by omega) (by omega))
  have L1 : LVL h1 v := fun f hf => by rw [c0 7 (by omega) (by omega) (by omega)]; exact F2 f hf
  have P0 : PX G v k h1 h1 0 := by
    refine ⟨?_, fun _ _ _ _ => rfl, fun _ _ => rfl, rfl, fun f => ⟨fun z => absurd z (Nat.not_lt_zero f), fun _ => ⟨rfl, rfl⟩⟩⟩
    rw [← hh, up_cell (by omega), up_same]
    rfl
  obtain ⟨h2, q2, P1, P2, P3, P4, P5⟩ := m_fix_c75 (s := fS G v) R1 I L1 bv hk2 (by rw [c0 0 (by omega) (by omega) (by omega)]; exact F1) (by rw [← hh, up_same]) rfl hs 20 0 1000 h1 (by omega) (by omega) P0
  have q2 : fX4_fix_c75 1000 (nI (fS G v)) 0 h1 = fX4_fix_c217 1000 (nI (fS G v)) 0 h2 := q2
  rw [q2]
  have L2 : LVL h2 v := fun f hf => by rw [P2 7 (by omega) (by omega) (by omega)]; exact L1 f hf
  obtain ⟨h3, q3, Z1, Z2, Z3, Z4, Z5⟩ := m_fix_c217 (s := fS G v) L2 hk2 (by rw [P2 0 (by omega) (by omega) (by omega), c0 0 (by omega) (by omega) (by omega)]; exact F1) P1 rfl
  refine ⟨h3, q3, ⟨Z2, ?_, fun j hj => ?_, fun j f hj hf hx => ?_⟩, ⟨fun c x y => ?_, fun j x => ?_, ?_⟩⟩
  · show LVL h3 (fN G (fV G k))
    rw [hv]
    exact Z1
  · by_cases q : j = k
    · subst q
      rw [hv]
      refine ⟨?_, ?_, ?_⟩
      · rw [Z3 10 (by omega) (by omega), P2 10 (by omega) (by omega) (by omega), ← hh, up_cell (by omega), up_cell (by omega), up_same]
      · rw [Z3 11 (by omega) (by omega)]; exact P1
      · rw [Z3 12 (by omega) (by omega), P2 12 (by omega) (by omega) (by omega), ← hh, up_same]
    · obtain ⟨a, b, d⟩ := F3 j (by omega)
      refine ⟨?_, ?_, ?_⟩
      · rw [Z3 10 (by omega) (by omega), P2 10 (by omega) (by omega) (by omega), ← hh, up_cell (by omega), up_cell (by omega), up_at, if_neg (fun z => q z.2)]; exact a
      · rw [Z3 11 (by omega) (by omega), P3 j q, ← hh, up_cell (by omega), up_at, if_neg (fun z => q z.2), up_cell (by omega)]; exact b
      · rw [Z3 12 (by omega) (by omega), P2 12 (by omega) (by omega) (by omega), ← hh, up_at, if_neg (fun z => q z.2), up_cell (by omega), up_cell (by omega)]; exact d
  · by_cases q : j = k
    · subst q
      rw [hv] at hx ⊢
      rw [Z3 8 (by omega) (by omega), Z3 9 (by omega) (by omega)]
      exact (P5 f).1 hf hx
    · have h4 : fX G v f = false := by rw [← hv]; exact fX_once (show j < k by omega) hf hx
      rw [Z3 8 (by omega) (by omega), Z3 9 (by omega) (by omega), ((P5 f).2 (Or.inr h4)).1, ((P5 f).2 (Or.inr h4)).2, c0 8 (by omega) (by omega) (by omega), c0 9 (by omega) (by omega) (by omega)]
      exact F4 j f (by omega) hf hx
  · rw [Z3 c x (by omega), P2 c (by omega) (by omega) (by omega), c0 c (by omega) (by omega) (by omega)]
  · rw [Z4 j x, P2 0 (by omega) (by omega) (by omega), c0 0 (by omega) (by omega) (by omega)]
  · rw [Z5, P4, ← hh]; rfl
theorem fML_small (n : Nat) : fML G v n ≤ 1000001 := by
  induction n with
  | zero => exact Nat.le_refl _
  | succ n ih => rw [fML]; split <;> omega
theorem FM.up13 {k : Nat} (F : FM G k h) {j : Nat} {x : Int32} : FM G k (th_up h 13 j x) := by
  obtain ⟨F1, F2, F3, F4⟩ := F
  refine ⟨by rw [up_cell (by omega)]; exact F1, fun f hf => by rw [up_cell (by omega)]; exact F2 f hf, fun j hj => ?_, fun j f hj hf hx => ?_⟩
  · rw [up_cell (by omega), up_cell (by omega), up_cell (by omega)]; exact F3 j hj
  · rw [up_cell (by omega), up_cell (by omega)]; exact F4 j f hj hf hx
/-- the tides, then the own ones, then a step -/
theorem m_lf_c102 (R : RM h G) (I : IQ G) (B : IB G) {k : Nat} (hk : k < fSteps G) (F : FM G k h) (T : TD h G (fV G k)) (K : Int32 → th_H → Option (Unit × th_H)) (n : Nat) : ∃ h2, fX4_layFair_c102 K 1000 (nI n) (nI (fML G (fV G k) 10)) 0 h = K (nI n - nI (fb_ct (fX G (fV G k)) 20)) h2 ∧ FM G (k + 1) h2 ∧ MZ h h2 := by
  obtain ⟨h2, q2, F2, Z⟩ := m_fix R I B hk F T
  refine ⟨h2, ?_, F2, Z⟩
  have bv := fV_bv I B k (by omega)
  have L := F.2.1
  have hsm : ∀ i, fMF G (fV G k) i ≤ 1000001 := fun i => Nat.le_trans (fMF_ml i) (fML_small 10)
  refine for_up 20 (fun fu i => fX4_layFair_c102 K fu (nI n) (nI (fMF G (fV G k) i)) (nI i) h) _ ?_ ?_ (by omega)
  · intro fu i hi
    have h1 := hsm i
    simp (disch := omega) only [fX4_layFair_c102, e_bd, e_st, e_addl, e_ladd, e_lmul, nI_add, nI_1, pk_mul, e_ltl, e_llt, e_eql, e_lt, e_eq, e_c0, e_c1, e_10, e_01, e_gb0, e_gb1, e_gbc, e_dv, ↓reduceIte, not_true_eq_false, not_false_eq_true, and_self, and_true, true_and, Bool.false_eq_true, Nat.reduceAdd, Nat.reduceMul, m_inl, m_at, m_lesser, m_isLink, m_areLinks, hi, m_isFlow R I hi, m_lv L hi, fMF]
    by_cases c : gTh G i = true
    · have hO := gOwn_le I hi c
      rw [if_neg (not_not_intro c), ic (enc_m1 (fV G k i) (fun x hx => bv i x hx))]
      by_cases c2 : (fV G k i).isNone = true
      · rw [if_pos c2, if_pos (by simp [fOp, c, c2]), m_own R I hi c, e_bd, m_lesser (by omega) (by omega), e_bd]
      · rw [if_neg c2, if_neg (by simp only [fOp, Bool.and_eq_true]; exact fun z => c2 z.2)]
    · rw [if_pos c, if_neg (by simp only [fOp, Bool.and_eq_true]; exact fun z => c z.1)]
  · intro fu
    simp (disch := omega) only [fX4_layFair_c102, e_bd, e_st, e_addl, e_ladd, e_lmul, nI_add, nI_1, pk_mul, e_ltl, e_llt, e_eql, e_lt, e_eq, e_c0, e_c1, e_10, e_01, e_gb0, e_gb1, e_gbc, e_dv, ↓reduceIte, not_true_eq_false, not_false_eq_true, and_self, and_true, true_and, Bool.false_eq_true, Nat.reduceAdd, Nat.reduceMul, m_inl, m_at, m_lesser, m_isLink, m_areLinks, Nat.lt_irrefl]
    show th_bd (fX4_fix (nI (fS G (fV G k))) h) _ = _
    rw [q2, e_bd]
theorem m_lf_c40 (R : RM h G) (I : IQ G) (B : IB G) {k : Nat} (hk : k < fSteps G) (F : FM G k h) (K : Int32 → th_H → Option (Unit × th_H)) (n : Nat) : ∃ h2, fX4_layFair_c40 K 1000 (nI n) 1000001 0 h = K (nI n - nI (fb_ct (fX G (fV G k)) 20)) h2 ∧ FM G (k + 1) h2 ∧ MZ h h2 := by
  have bv := fV_bv I B k (by omega)
  have J := (fV_J0 I B k (by omega)).1
  have key : ∀ d i fu h1, i + d = 10 → d < fu → FM G k h1 → MZ h h1 → (∀ l, l < i → h1.1 13 l = enc (if fOpL G (fV G k) l = true then some (fT G (fV G k) l) else none)) → ∃ h2, fX4_layFair_c40 K fu (nI n) (nI (fML G (fV G k) i)) (nI i) h1 = K (nI n - nI (fb_ct (fX G (fV G k)) 20)) h2 ∧ FM G (k + 1) h2 ∧ MZ h h2 := by
    intro d
    induction d with
    | zero =>
      intro i fu h1 hi hfu F1 Z T
      obtain ⟨j, rfl⟩ : ∃ j, fu = j + 1 := ⟨fu - 1, by omega⟩
      rw [show i = 10 by omega] at T ⊢
      rw [fX4_layFair_c40, if_neg (by decide)]
      obtain ⟨h2, q, F2, Z2⟩ := m_lf_c102 (Z.row R) I B hk F1 T K n
      exact ⟨h2, q, F2, Z.tr Z2⟩
    | succ d ih =>
      intro i fu h1 hi hfu F1 Z T
      obtain ⟨j, rfl⟩ : ∃ j, fu = j + 1 := ⟨fu - 1, by omega⟩
      have hi2 : i < 10 := by omega
      have R1 := Z.row R
      have hsm := fML_small (G := G) (v := fV G k) i
      have htl := fT_le (G := G) (v := fV G k) i
      have T2 : ∀ x, x = enc (if fOpL G (fV G k) i = true then some (fT G (fV G k) i) else none) → ∀ l, l < i + 1 → (th_up h1 13 i x).1 13 l = enc (if fOpL G (fV G k) l = true then some (fT G (fV G k) l) else none) := by
        intro x hx l hl
        rw [up_at]
        by_cases q : l = i
        · rw [if_pos ⟨rfl, q⟩, q]; exact hx
        · rw [if_neg (fun z => q z.2)]; exact T l (by omega)
      rw [fX4_layFair_c40, if_pos (show nI i < (10 : Int32) from nI_lt (a := i) (b := 10) (by omega) (by omega)), m_isOpen R1 I F1.2.1 bv hi2, e_bd, ic (bI_0 _)]
      cases c : fOpL G (fV G k) i
      · rw [if_pos rfl]
        unfold fX4_layFair_c68
        rw [e_wr hi2 (by omega), e_rd hi2 (by omega), up_same, if_pos rfl, nI_1]
        have e : fML G (fV G k) (i + 1) = fML G (fV G k) i := by rw [fML, if_neg (by simp [c])]
        have := ih (i + 1) j (th_up h1 13 i (-1)) (by omega) (by omega) F1.up13 (Z.up (by omega) (by omega)) (T2 (-1) (by rw [c]; rfl))
        rw [e] at this
        exact this
      · rw [if_neg (by simp), m_tideOf R1 I F1.2.1 bv J hi2, e_bd]
        unfold fX4_layFair_c68
        rw [e_wr hi2 (by omega), e_rd hi2 (by omega), up_same, if_neg (by rw [e_ne1 (by omega)]; exact id), e_rd hi2 (by omega), up_same, m_lesser (by omega) (by omega), e_bd, nI_1]
        have e : fML G (fV G k) (i + 1) = min (fML G (fV G k) i) (fT G (fV G k) i) := by rw [fML, if_pos c]
        have := ih (i + 1) j (th_up h1 13 i (nI (fT G (fV G k) i))) (by omega) (by omega) F1.up13 (Z.up (by omega) (by omega)) (T2 _ (by rw [c]; rfl))
        rw [e] at this
        exact this
  exact key 10 0 1000 h (by omega) (by omega) F MZ.rf (fun l hl => absurd hl (Nat.not_lt_zero l))
theorem m_layFair (R : RM h G) (I : IQ G) (B : IB G) : ∃ h2, fX4_layFair h = some ((), h2) ∧ FM G (fSteps G) h2 ∧ MZ h h2 := by
  have hgo : ∀ k, k < fSteps G → k < fSteps G := fun _ z => z
  have hle20 := fSteps_le (G := G)
  have hend := fSteps_end I
  generalize hN : fSteps G = N at hle20 hend ⊢
  have hgo : ∀ k, k < N → k < fSteps G := fun k z => by rw [hN]; exact z
  have main : ∀ d k fu h1, k + d = N → d < fu → FM G k h1 → MZ h h1 → ∃ h2, fX4_layFair_c31 fu (nI (fb_ct (fOp G (fV G k)) 20)) h1 = some ((), h2) ∧ FM G N h2 ∧ MZ h h2 := by
    intro d
    induction d with
    | zero =>
      intro k fu h1 hk hfu F Z
      obtain ⟨j, rfl⟩ : ∃ j, fu = j + 1 := ⟨fu - 1, by omega⟩
      have e : k = N := by omega
      subst e
      have h0 : fb_ct (fOp G (fV G k)) 20 = 0 := fb_ct_zero.mpr (fun f hf => by
        cases q : fOp G (fV G k) f
        · rfl
        · have := fAny_iff.mpr ⟨f, hf, q⟩
          rw [hend] at this
          cases this)
      refine ⟨h1, ?_, F, Z⟩
      rw [fX4_layFair_c31, h0, if_neg (by decide)]
    | succ d ih =>
      intro k fu h1 hk hfu F Z
      obtain ⟨j, rfl⟩ : ∃ j, fu = j + 1 := ⟨fu - 1, by omega⟩
      have hk2 : k < fSteps G := hgo k (by omega)
      obtain ⟨f, hf, hx⟩ := fAny_iff.mp (fSteps_go hk2)
      have h0 : 0 < fb_ct (fOp G (fV G k)) 20 := fb_ct_pos.mpr ⟨f, hf, hx⟩
      have hle := fb_ct_le (fOp G (fV G k)) 20
      have hct := fN_ct (G := G) (v := fV G k)
      obtain ⟨h2, q, F2, Z2⟩ := m_lf_c40 (Z.row R) I B hk2 F (fX4_layFair_c31 j) (fb_ct (fOp G (fV G k)) 20)
      rw [fX4_layFair_c31, if_pos (show (0 : Int32) < nI (fb_ct (fOp G (fV G k)) 20) from nI_lt (a := 0) h0 (by omega)), q, pk_sub (by omega)]
      have e : fb_ct (fOp G (fV G k)) 20 - fb_ct (fX G (fV G k)) 20 = fb_ct (fOp G (fV G (k + 1))) 20 := by
        show _ = fb_ct (fOp G (fN G (fV G k))) 20
        omega
      rw [e]
      exact ih (k + 1) j h2 (by omega) (by omega) F2 (Z.tr Z2)
  have start : ∀ d i fu h1, i + d = 20 → d < fu → (∀ f, f < i → h1.1 7 f = -1) → MZ h h1 → ∃ h2, fX4_layFair_c2 fu (nI i) h1 = some ((), h2) ∧ FM G N h2 ∧ MZ h h2 := by
    intro d
    induction d with
    | zero =>
      intro i fu h1 hi hfu P Z
      obtain ⟨j, rfl⟩ : ∃ j, fu = j + 1 := ⟨fu - 1, by omega⟩
      rw [show i = 20 by omega] at P ⊢
      have R1 : RM (th_up h1 0 13 0) G := (Z.st).row R
      rw [fX4_layFair_c2, if_neg (by decide), e_st, m_flowMany R1 I, e_bd]
      have e : gMany G = fb_ct (fOp G (fV G 0)) 20 := fb_ct_cong (fun f _ => by simp [fOp, fV])
      rw [e]
      refine main N 0 1000 _ (by omega) (by omega) ⟨up_same, fun f hf => ?_, fun j hj => absurd hj (Nat.not_lt_zero j), fun j f hj => absurd hj (Nat.not_lt_zero j)⟩ Z.st
      rw [up_cell (by omega)]
      exact P f hf
    | succ d ih =>
      intro i fu h1 hi hfu P Z
      obtain ⟨j, rfl⟩ : ∃ j, fu = j + 1 := ⟨fu - 1, by omega⟩
      rw [fX4_layFair_c2, if_pos (show nI i < (20 : Int32) from nI_lt (a := i) (b := 20) (by omega) (by omega)), e_wr (by omega) (by omega), nI_1]
      refine ih (i + 1) j _ (by omega) (by omega) (fun f hf => ?_) (Z.up (by omega) (by omega))
      rw [up_at]
      by_cases q : f = i
      · rw [if_pos ⟨rfl, q⟩]
      · rw [if_neg (fun z => q z.2)]
        exact P f (by omega)
  exact start 20 0 1000 h (by omega) (by omega) (fun f hf => absurd hf (Nat.not_lt_zero f)) MZ.rf
end
