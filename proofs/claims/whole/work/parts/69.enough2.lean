/-! ===== enough ===== -/
def eqL (G : GR) (l c : Nat) : Bool := mk (gDf G (gu G (3 + l) c)) 20 == 0
section
variable {n N b l c f E B0 C : Nat} {h m h2 m2 : th_H} {G Gp : GR}
theorem eqL_iff : eqL G l c = true ↔ ∀ f, f < 20 → gTh G f = true → gLv (gu G (3 + l) c) f = gLv G f := by
  unfold eqL
  rw [beq_iff_eq, bits0 (mk_lt _ 20)]
  constructor
  · intro z f hf ht
    have := z f hf
    rw [mk20_bit _ hf] at this
    unfold gDf at this
    rw [ht, Bool.true_and] at this
    simpa using this
  · intro z f hf
    rw [mk20_bit _ hf]
    unfold gDf
    cases ht : gTh G f with
    | false => rfl
    | true => rw [decide_eq_true (z f hf ht)]; rfl
/-- the least one -/
theorem eqL_least (hl : l < 10) (I : IQ G) (B : IB G) : ∃ E, gBnd G l ≤ E ∧ E ≤ gCap G l ∧ (∀ c, gBnd G l ≤ c → c < E → eqL G l c = false) ∧ ∀ c, E ≤ c → c ≤ gCap G l → eqL G l c = true := by
  have hB := B l hl
  obtain ⟨i, hi, p1, p2⟩ := fb_first (p := fun i => eqL G l (gBnd G l + i) = true) (n := gCap G l - gBnd G l + 1) ⟨gCap G l - gBnd G l, by omega, eqL_iff.mpr (fun f _ _ => by rw [show gBnd G l + (gCap G l - gBnd G l) = gCap G l by omega, gu_same (show G (3 + l) = gCap G l from rfl)])⟩
  refine ⟨gBnd G l + i, by omega, by omega, fun c h1 h2 => ?_, fun c h1 h2 => ?_⟩
  · have := p2 (c - gBnd G l) (by omega)
    rw [show gBnd G l + (c - gBnd G l) = c by omega] at this
    simpa using this
  · exact eqL_iff.mpr (cap_side hl I B (by omega) h1 h2 (eqL_iff.mp p1))
theorem eqL_0 : (nI (mk (gDf G (gu G (3 + l) c)) 20) = 0) = (eqL G l c = true) := by
  rw [show (0 : Int32) = nI 0 from rfl, e_eq (mk20 _) (by omega)]
  unfold eqL
  simp
theorem c_enough (hN : N ≤ 600) (hl : l < 10) (I : IQ G) (B : IB G) (hE1 : gBnd G l ≤ E) (hE2 : E ≤ gCap G l) (hE3 : ∀ c, gBnd G l ≤ c → c < E → eqL G l c = false) (hE4 : ∀ c, E ≤ c → c ≤ gCap G l → eqL G l c = true) : ∀ k lo hi i fu h' b Gp, gBnd G l ≤ lo → lo ≤ E → E ≤ hi → hi ≤ gCap G l → hi - lo < 2 ^ k → i + k ≤ 31 → k < fu → (∀ j, j ≠ 3 + l → Gp j = G j) → PA N b G Gp h' m → b + k ≤ 100 * N → ∃ h2 b2 Gp2, fX3_enough_c37 fu (nI l) (nI lo) (nI hi) (nI i) h' = some (nI E, h2) ∧ PA N b2 G Gp2 h2 m := by
  have hc : gCap G l ≤ 1000000 := I.1 l hl
  intro k
  induction k with
  | zero =>
    intro lo hi i fu h' b Gp h1 h2 h3 h4 h5 h6 h7 hG P hb
    obtain ⟨fu, rfl⟩ : ∃ z, fu = z + 1 := ⟨fu - 1, by omega⟩
    have h5' : hi - lo < 1 := h5
    obtain rfl : lo = hi := by omega
    obtain rfl : lo = E := by omega
    rw [fX3_enough_c37, if_pos (show nI i < (32 : Int32) from nI_lt (a := i) (b := 32) (by omega) (by omega)), if_neg (nI_nlt (Nat.le_refl _) (by omega))]
    exact ⟨_, _, _, rfl, P⟩
  | succ k ih =>
    intro lo hi i fu h' b Gp h1 h2 h3 h4 h5 h6 h7 hG P hb
    obtain ⟨fu, rfl⟩ : ∃ z, fu = z + 1 := ⟨fu - 1, by omega⟩
    rw [Nat.pow_succ] at h5
    rw [fX3_enough_c37, if_pos (show nI i < (32 : Int32) from nI_lt (a := i) (b := 32) (by omega) (by omega)), ic (e_lt (show lo < 2147483648 by omega) (show hi < 2147483648 by omega))]
    by_cases c : lo < hi
    · have eg : gu Gp (3 + l) ((lo + hi) / 2) = gu G (3 + l) ((lo + hi) / 2) := by
        funext j
        unfold gu
        by_cases z : j = 3 + l
        · rw [if_pos z, if_pos z]
        · rw [if_neg z, if_neg z, hG j z]
      obtain ⟨h3', q3, rp3, e8, ec⟩ := c_setCap P.2.1 hl ((lo + hi) / 2)
      rw [eg] at rp3
      have P3 := P.edit (fun c hc => ec c (by omega)) e8 rp3 (by omega)
      obtain ⟨h4', q4, P4, -⟩ := c_otherLevels P3 hN (cap_iq I hl (by omega)) (cap_ib B hl (by omega))
      rw [if_pos c, nI_add, e_divl (by omega) (by decide) (by decide), q3, e_bd, q4, e_bd, ic eqL_0, nI_1, nI_1]
      by_cases d : eqL G l ((lo + hi) / 2) = true
      · have hm : E ≤ (lo + hi) / 2 := by
          rcases Nat.lt_or_ge ((lo + hi) / 2) E with z | z
          · rw [hE3 _ (by omega) z] at d; cases d
          · exact z
        have d2 : eqL G l ((lo + hi) / OfNat.ofNat 2) = true := d
        rw [if_pos d2]
        exact ih lo _ (i + 1) fu h4' (b + 1) _ h1 h2 hm (by omega) (by omega) (by omega) (by omega) (fun j hj => gu_ne hj) P4 (by omega)
      · have hm : (lo + hi) / 2 < E := by
          rcases Nat.lt_or_ge ((lo + hi) / 2) E with z | z
          · exact z
          · exact absurd (hE4 _ z (by omega)) d
        have d2 : ¬ eqL G l ((lo + hi) / OfNat.ofNat 2) = true := d
        rw [if_neg d2]
        exact ih _ hi (i + 1) fu h4' (b + 1) _ (by omega) (by omega) h3 h4 (by omega) (by omega) (by omega) (fun j hj => gu_ne hj) P4 (by omega)
    · rw [if_neg c]
      obtain rfl : hi = E := by omega
      exact ⟨_, _, _, rfl, P⟩
theorem sub1_add {a x : Nat} (h : 1 ≤ a + x) : nI a - 1 + nI x = nI (a + x - 1) := by
  rw [Int32.sub_eq_add_neg, Int32.add_assoc, Int32.add_comm (-1) (nI x), ← Int32.add_assoc, nI_add, ← Int32.sub_eq_add_neg]
  exact pk_sub (b := 1) h
theorem sub_sub1 {a x : Nat} (h : a ≤ x) : nI x - (nI a - 1) = nI (x - a + 1) := by
  rw [← nI_1, ← pk_sub h, Int32.sub_eq_add_neg, Int32.sub_eq_add_neg, Int32.neg_add, Int32.sub_eq_add_neg (-nI a) (-1), Int32.neg_neg, ← Int32.add_assoc, ← Int32.sub_eq_add_neg]
theorem m_enough (hl : l < 10) (I : IQ G) (B : IB G) (hE1 : gBnd G l ≤ E) (hE2 : E ≤ gCap G l) (hE3 : ∀ c, gBnd G l ≤ c → c < E → eqL G l c = false) (hE4 : ∀ c, E ≤ c → c ≤ gCap G l → eqL G l c = true) : ∀ k a hi fu m', gBnd G l ≤ a → a ≤ E → E ≤ hi → hi ≤ gCap G l → hi - a < 2 ^ k → k < fu → RM m' G → TL m' G → ∃ m2, fX4_enough_c35 fu (nI l) (nI a - 1) (nI hi) m' = some (nI E, m2) ∧ RM m2 G ∧ (∀ c, c ≠ 0 → c ≠ 2 → (c < 7 ∨ 13 < c) → m2.1 c = m'.1 c) := by
  have hc : gCap G l ≤ 1000000 := I.1 l hl
  intro k
  induction k with
  | zero =>
    intro a hi fu m' h1 h2 h3 h4 h5 h7 R T
    obtain ⟨fu, rfl⟩ : ∃ z, fu = z + 1 := ⟨fu - 1, by omega⟩
    have h5' : hi - a < 1 := h5
    obtain rfl : a = hi := by omega
    obtain rfl : a = E := by omega
    rw [fX4_enough_c35, sub_sub1 (Nat.le_refl _), if_neg (show ¬ (1 : Int32) < nI (a - a + 1) by rw [Nat.sub_self]; decide)]
    exact ⟨_, rfl, R, fun _ _ _ _ => rfl⟩
  | succ k ih =>
    intro a hi fu m' h1 h2 h3 h4 h5 h7 R T
    obtain ⟨fu, rfl⟩ : ∃ z, fu = z + 1 := ⟨fu - 1, by omega⟩
    rw [Nat.pow_succ] at h5
    rw [fX4_enough_c35, sub_sub1 (show a ≤ hi by omega), ic (e_llt (n := 1) (show hi - a + 1 < 2147483648 by omega) (by decide))]
    by_cases c : a < hi
    · have c2 : (OfNat.ofNat 1 : Nat) < hi - a + 1 := show 1 < hi - a + 1 by omega
      obtain ⟨m2, q2, r2, t2, f2⟩ := m_othersBy (c := (a + hi - 1) / 2) R T I B hl (cap_iq I hl (by omega)) (cap_ib B hl (by omega))
      rw [if_pos c2, sub1_add (show 1 ≤ a + hi by omega), e_divl (by omega) (by decide) (by decide)]
      have q2' : fX4_othersBy (nI l) (nI ((a + hi - 1) / OfNat.ofNat 2)) m' = some (nI (mk (gDf G (gu G (3 + l) ((a + hi - 1) / 2))) 20), m2) := q2
      rw [q2', e_bd, ic eqL_0]
      by_cases d : eqL G l ((a + hi - 1) / 2) = true
      · have hm : E ≤ (a + hi - 1) / 2 := by
          rcases Nat.lt_or_ge ((a + hi - 1) / 2) E with z | z
          · rw [hE3 _ (by omega) z] at d; cases d
          · exact z
        rw [if_pos d]
        obtain ⟨m3, q3, r3, f3⟩ := ih a ((a + hi - 1) / 2) fu m2 h1 h2 hm (by omega) (by omega) (by omega) r2 t2
        exact ⟨m3, q3, r3, fun c c0 c2 c7 => by rw [f3 c c0 c2 c7, f2 c c0 c2 c7]⟩
      · have hm : (a + hi - 1) / 2 < E := by
          rcases Nat.lt_or_ge ((a + hi - 1) / 2) E with z | z
          · exact z
          · exact absurd (hE4 _ z (by omega)) d
        rw [if_neg d]
        obtain ⟨m3, q3, r3, f3⟩ := ih ((a + hi - 1) / 2 + 1) hi fu m2 (by omega) (by omega) h3 h4 (by omega) (by omega) r2 t2
        rw [nI_pred] at q3
        exact ⟨m3, q3, r3, fun c c0 c2 c7 => by rw [f3 c c0 c2 c7, f2 c c0 c2 c7]⟩
    · have c2 : ¬ (OfNat.ofNat 1 : Nat) < hi - a + 1 := fun z => by have : 1 < hi - a + 1 := z; omega
      rw [if_neg c2]
      obtain rfl : hi = E := by omega
      exact ⟨_, rfl, R, fun _ _ _ _ => rfl⟩
end
theorem s_enough (x : Int32) : Sp2 (fX3_enough x) (fX4_enough x) := by
  intro n h m hn ⟨G, R⟩
  have R0 := R.th0
  have I := R.2.2.1
  unfold fX3_enough fX4_enough
  rw [c_isLink, e_bd, e_st, m_isLink, e_bd, ic e_c0, ic e_c0]
  by_cases c : 0 ≤ x.toInt ∧ x.toInt ≤ 9
  · rw [if_neg (not_not_intro c), if_neg (not_not_intro c)]
    obtain ⟨l, hl, e⟩ := e_li x c
    subst e
    have hc : gCap G l ≤ 1000000 := I.1.1.1 l hl
    have v3 : h.1 3 l = nI (gCap G l) := R.rp.1 l hl
    have g3 : G (3 + l) = gCap G l := rfl
    obtain ⟨E, e1, e2, e3, e4⟩ := eqL_least hl R.iq I.1.2.1
    obtain ⟨h5, b0, q5, P5, hb, -⟩ := sheet R0
    obtain ⟨h6, b2, Gp2, q6, P6⟩ := c_enough (N := n + 1) (m := th_up m 0 0 0) (by omega) hl R.iq I.1.2.1 e1 e2 e3 e4 20 (gBnd G l) (gCap G l) 0 1000 h5 (b0 + 1) G (Nat.le_refl _) e1 e2 (Nat.le_refl _) (by omega) (by omega) (by omega) (fun _ _ => rfl) P5.pa (by omega)
    obtain ⟨m4, t1, t2, t3, t4⟩ := m_takeLevels R0.2.1 R.iq I.1.2.1
    obtain ⟨m6, u1, u2, u3⟩ := m_enough hl R.iq I.1.2.1 e1 e2 e3 e4 20 (gBnd G l) (gCap G l) 1000 m4 (Nat.le_refl _) e1 e2 (Nat.le_refl _) (by omega) (by omega) t2 t3
    have me : ∀ j, j = 1 ∨ j = 3 ∨ j = 4 → m6.1 j = (th_up m 0 0 0).1 j := fun j hj => by rw [u3 j (by omega) (by omega) (by omega), t4 j (by omega) (by omega)]
    have q6' : fX3_enough_c37 1000 (nI l) (nI (gBnd G l)) (nI (gCap G l)) 0 h5 = some (nI E, h6) := q6
    rw [c_boundOf R.rp R.iq hl, e_bd, e_rd hl (by omega), v3, q5, e_bd, q6', t1, e_bd, m_bound t2 R.iq hl, e_bd, e_ladd, m_row t2 (by omega), g3, u1]
    exact ⟨_, _, _, rfl, rfl, G, P6.1.mod u2 (me 1 (by omega)) (me 3 (by omega)) (me 4 (by omega))⟩
  · rw [if_pos c, if_pos c]
    exact ⟨_, _, _, rfl, rfl, G, R0.inc⟩
