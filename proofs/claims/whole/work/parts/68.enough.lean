/-! ===== touched, enough ===== -/
def gDf (G Gp : GR) (f : Nat) : Bool := gTh G f && !decide (gLv Gp f = gLv G f)
def TL (m : th_H) (G : GR) : Prop := ∀ f, f < 20 → m.1 14 f = enc (fV G (fSteps G) f)
section
variable {n N b l c f : Nat} {h m h2 m2 : th_H} {G Gp : GR}
theorem m_takeLevels (R : RM m G) (I : IQ G) (B : IB G) : ∃ m2, fX4_takeLevels m = some ((), m2) ∧ RM m2 G ∧ TL m2 G ∧ (∀ c, c ≠ 0 → (c < 7 ∨ 14 < c) → m2.1 c = m.1 c) := by
  obtain ⟨m1, q1, F, Z⟩ := m_layFair R I B
  have key : ∀ d i fu h, i + d = 20 → d < fu → (∀ f, f < i → h.1 14 f = enc (fV G (fSteps G) f)) → (∀ c, c ≠ 14 → h.1 c = m1.1 c) → ∃ m2, fX4_takeLevels_c6 fu (nI i) h = some ((), m2) ∧ (∀ f, f < 20 → m2.1 14 f = enc (fV G (fSteps G) f)) ∧ (∀ c, c ≠ 14 → m2.1 c = m1.1 c) := by
    intro d
    induction d with
    | zero =>
      intro i fu h hi hfu P1 P2
      obtain ⟨fu, rfl⟩ : ∃ z, fu = z + 1 := ⟨fu - 1, by omega⟩
      obtain rfl : i = 20 := by omega
      rw [fX4_takeLevels_c6, if_neg (by decide)]
      exact ⟨h, rfl, P1, P2⟩
    | succ d ih =>
      intro i fu h hi hfu P1 P2
      obtain ⟨fu, rfl⟩ : ∃ z, fu = z + 1 := ⟨fu - 1, by omega⟩
      rw [fX4_takeLevels_c6, if_pos (show nI i < (20 : Int32) from nI_lt (a := i) (b := 20) (by omega) (by omega)), e_rd (by omega) (by omega), e_wr (by omega) (by omega), nI_1]
      refine ih (i + 1) fu _ (by omega) (by omega) (fun f hf => ?_) (fun c hc => by rw [up_cell hc]; exact P2 c hc)
      rw [up_at]
      by_cases z : f = i
      · rw [if_pos ⟨rfl, z⟩, z, P2 7 (by omega)]
        exact F.2.1 i (by omega)
      · rw [if_neg (fun y => z y.2)]
        exact P1 f (by omega)
  obtain ⟨m2, q2, a, e⟩ := key 20 0 1000 m1 (by omega) (by omega) (fun f hf => absurd hf (Nat.not_lt_zero f)) (fun _ _ => rfl)
  have q2' : fX4_takeLevels_c6 1000 0 m1 = some ((), m2) := q2
  unfold fX4_takeLevels
  rw [q1, e_bd, q2']
  exact ⟨m2, rfl, (Z.row R).off (e 2 (by omega)), a, fun c c0 hc => by rw [e c (by omega), Z.1 c c0 (by omega)]⟩
theorem TL.th (T : TL m G) (I : IQ G) (hf : f < 20) (ht : gTh G f = true) : m.1 14 f = nI (gLv G f) := by
  obtain ⟨t, et⟩ := fV_there I hf ht
  have := T f hf
  rw [et] at this
  unfold gLv
  rw [et]
  exact this
theorem m_othersBy (R : RM m G) (T : TL m G) (I : IQ G) (B : IB G) (hl : l < 10) (IQ' : IQ (gu G (3 + l) c)) (IB' : IB (gu G (3 + l) c)) : ∃ m2, fX4_othersBy (nI l) (nI c) m = some (nI (mk (gDf G (gu G (3 + l) c)) 20), m2) ∧ RM m2 G ∧ TL m2 G ∧ (∀ k, k ≠ 0 → k ≠ 2 → (k < 7 ∨ 13 < k) → m2.1 k = m.1 k) := by
  obtain ⟨m3, z1, z2, z3, z4⟩ := m_capFair (v := c) R I hl IQ' IB'
  have T4 : TL (th_up m3 2 (3 + l) (nI (G (3 + l)))) G := fun f hf => by rw [z4 14 (by omega) (by omega) (by omega)]; exact T f hf
  have H : HI G (gu G (3 + l) c) := HI.cap hl
  unfold fX4_othersBy
  rw [e_ladd, m_row R (by omega), e_wr (by omega) (by omega), z1, e_bd, e_wr (by omega) (by omega)]
  generalize th_up m3 2 (3 + l) (nI (G (3 + l))) = m4 at z2 z3 z4 T4
  refine ⟨m4, ?_, z3, T4, z4⟩
  refine for_up 20 (fun fu i => fX4_othersBy_c37 fu (nI (mk (gDf G (gu G (3 + l) c)) i)) (nI i) m4) _ ?_ ?_ (by omega)
  · intro fu i hi
    have hl1 := gLv_le I B i
    have hl2 := gLv_le IQ' IB' i
    have em : mk (gDf G (gu G (3 + l) c)) (i + 1) = mk (gDf G (gu G (3 + l) c)) i ||| (if gDf G (gu G (3 + l) c) i = true then 2 ^ i else 0) := rfl
    rw [fX4_othersBy_c37, if_pos (show nI i < (20 : Int32) from nI_lt (a := i) (b := 20) hi (by omega)), m_isFlow z3 I hi, e_bd, ic e_c0, show (0 : Int32) = nI 0 from rfl, fa_or, Nat.or_zero, e_shl (by omega), fa_or, nI_1, em]
    by_cases t : gTh G i = true
    · rw [if_neg (not_not_intro t), e_rd hi (by omega), lv_th z2 IQ' hi (by rw [H.th]; exact t), e_rd hi (by omega), T4.th I hi t, ic (e_eq (show gLv (gu G (3 + l) c) i < 2147483648 by omega) (show gLv G i < 2147483648 by omega))]
      by_cases d : gLv (gu G (3 + l) c) i = gLv G i
      · rw [if_pos d, if_neg (show ¬ gDf G (gu G (3 + l) c) i = true by unfold gDf; rw [decide_eq_true d]; simp), Nat.or_zero]
      · rw [if_neg d, if_pos (show gDf G (gu G (3 + l) c) i = true by unfold gDf; rw [decide_eq_false d, t]; rfl)]
    · rw [if_pos t, if_neg (show ¬ gDf G (gu G (3 + l) c) i = true by unfold gDf; rw [show gTh G i = false by simpa using t]; simp), Nat.or_zero]
  · intro fu
    rw [fX4_othersBy_c37, if_neg (by decide)]
theorem c_otherLevels (P : PB N b G Gp h m) (hN : N ≤ 600) (IQ' : IQ Gp) (IB' : IB Gp) : ∃ h2, fX3_otherLevels h = some (nI (mk (gDf G Gp) 20), h2) ∧ PA N (b + 1) G Gp h2 m ∧ (∀ c, (c < 19 ∨ 52 < c ∨ (26 < c ∧ c < 45)) → h2.1 c = h.1 c) := by
  have I := P.1.iq
  have B := P.1.2.2.1.1.2.1
  obtain ⟨h1, q1, F1, P1, k1⟩ := P.now
  obtain ⟨h3, q2, F2, P2, k2⟩ := P1.rise hN IQ' IB'
  have F1' : FWt 19 G h3 := FW.cells F1 (fun c a b => k2 c (by omega))
  unfold fX3_otherLevels
  rw [q1, e_bd, q2, e_bd]
  refine ⟨h3, ?_, P2, fun c hc => by rw [k2 c (by omega), k1 c (by omega)]⟩
  refine for_up 20 (fun fu i => fX3_otherLevels_c18 fu (nI (mk (gDf G Gp) i)) (nI i) h3) _ ?_ ?_ (by omega)
  · intro fu i hi
    have hl1 := gLv_le I B i
    have hl2 := gLv_le IQ' IB' i
    have v46 : h3.1 46 i = nI (gLv Gp i) := F2.2.1 i hi
    have v20 : h3.1 20 i = nI (gLv G i) := F1'.2.1 i hi
    have em : mk (gDf G Gp) (i + 1) = mk (gDf G Gp) i ||| (if gDf G Gp i = true then 2 ^ i else 0) := rfl
    rw [fX3_otherLevels_c18, if_pos (show nI i < (20 : Int32) from nI_lt (a := i) (b := 20) hi (by omega)), c_has P2.1.rp hi, e_bd, ic e_c0, e_rd hi (by omega), v46, e_rd hi (by omega), v20, ic (e_eq (show gLv Gp i < 2147483648 by omega) (show gLv G i < 2147483648 by omega)), e_shl (by omega), fa_or, nI_1, em]
    by_cases t : gTh G i = true
    · rw [if_neg (not_not_intro t)]
      by_cases d : gLv Gp i = gLv G i
      · rw [if_pos d, if_neg (show ¬ gDf G Gp i = true by unfold gDf; rw [decide_eq_true d]; simp), Nat.or_zero]
      · rw [if_neg d, if_pos (show gDf G Gp i = true by unfold gDf; rw [decide_eq_false d, t]; rfl)]
    · rw [if_pos t, if_neg (show ¬ gDf G Gp i = true by unfold gDf; rw [show gTh G i = false by simpa using t]; simp), Nat.or_zero]
  · intro fu
    rw [fX3_otherLevels_c18, if_neg (by decide)]
end
theorem s_touched (x : Int32) : Sp2 (fX3_touched x) (fX4_touched x) := by
  intro n h m hn ⟨G, R⟩
  have R0 := R.th0
  have I := R.2.2.1
  unfold fX3_touched fX4_touched
  simp only [bd1]
  rw [c_isLink, e_bd, e_st, m_isLink, e_bd, ic e_c0, ic e_c0]
  by_cases c : 0 ≤ x.toInt ∧ x.toInt ≤ 9
  · rw [if_neg (not_not_intro c), if_neg (not_not_intro c)]
    obtain ⟨l, hl, e⟩ := e_li x c
    subst e
    have hc : gCap G l ≤ 1000000 := I.1.1.1 l hl
    have hB := I.1.2.1 l hl
    have v3 : h.1 3 l = nI (gCap G l) := R.rp.1 l hl
    have g3 : G (3 + l) = gCap G l := rfl
    rw [e_rd hl (by omega), v3, c_boundOf R.rp R.iq hl, e_bd, ic (e_lt (show gBnd G l < 2147483648 by omega) (show gCap G l < 2147483648 by omega)), e_ladd, m_row R0.2.1 (by omega), g3, m_bound R0.2.1 R.iq hl, e_bd, ic (e_eq (show gCap G l < 2147483648 by omega) (show gBnd G l < 2147483648 by omega))]
    by_cases k : gBnd G l < gCap G l
    · rw [if_pos k, if_neg (show ¬ gCap G l = gBnd G l by omega)]
      have IQ' := cap_iq (v := gCap G l - 1) R.iq hl (by omega)
      have IB' := cap_ib (v := gCap G l - 1) I.1.2.1 hl (by omega)
      obtain ⟨h6, b0, q6, P6, hb, hk6⟩ := sheet R0
      have v36 : h6.1 3 l = nI (gCap G l) := P6.1.rp.1 l hl
      obtain ⟨h8, q8, rp8, e8, ec⟩ := c_setCap P6.2.1 hl (gCap G l - 1)
      have P8 := P6.edit (fun c hc => ec c (by omega)) e8 rp8 (by omega)
      obtain ⟨h9, q9, P9, -⟩ := c_otherLevels P8 (by omega) IQ' IB'
      obtain ⟨m7, t1, t2, t3, t4⟩ := m_takeLevels R0.2.1 R.iq I.1.2.1
      obtain ⟨m9, u1, u2, u3, u4⟩ := m_othersBy (c := gCap G l - 1) t2 t3 R.iq I.1.2.1 hl IQ' IB'
      have me : ∀ j, j = 1 ∨ j = 3 ∨ j = 4 → m9.1 j = (th_up m 0 0 0).1 j := fun j hj => by rw [u4 j (by omega) (by omega) (by omega), t4 j (by omega) (by omega)]
      rw [q6, e_bd, e_rd hl (by omega), v36, e_subl (show 1 ≤ gCap G l by omega), q8, e_bd, q9, t1, e_bd, m_row t2 (by omega), g3, e_subl (show 1 ≤ gCap G l by omega), u1]
      exact ⟨_, _, _, rfl, rfl, G, P9.1.mod u2 (me 1 (by omega)) (me 3 (by omega)) (me 4 (by omega))⟩
    · rw [if_neg k, if_pos (show gCap G l = gBnd G l by omega)]
      exact ⟨_, _, _, rfl, rfl, G, R0.inc⟩
  · rw [if_pos c, if_pos c]
    exact ⟨_, _, _, rfl, rfl, G, R0.inc⟩
/-! capacities with the same levels lie side by side -/
theorem gl_mono {p q : Nat → Bool} (h : ∀ t, p t = true → q t = true) : gl p ≤ gl q := by
  rcases Nat.lt_or_ge (gl q) (gl p) with z | z
  · have h1 := gl_le p
    have h2 := gl_out (p := q) (by omega)
    have h3 := fa_first_no (fun t => !p (t + 1)) 1000000 (gl q) z
    have h4 : (!p (gl q + 1)) = false := h3
    have h5 : p (gl q + 1) = true := by simpa using h4
    rw [h _ h5] at h2
    cases h2
  · exact z
section
variable {l c c' : Nat} {G : GR} {v : LV}
theorem capT_le (hl : l < 10) (hc : c ≤ c') : fT (gu G (3 + l) c) v l ≤ fT (gu G (3 + l) c') v l := gl_mono (fun t z => by
  have z1 : fW (gu G (3 + l) c) v l t ≤ gCap (gu G (3 + l) c) l := by simpa using z
  rw [cap_W hl, gCap_up, if_pos rfl] at z1
  have : fW (gu G (3 + l) c') v l t ≤ gCap (gu G (3 + l) c') l := by
    rw [cap_W hl, gCap_up, if_pos rfl]
    omega
  simpa using this)
theorem capT_any (hl : l < 10) (hc : c ≤ c') (j : Nat) : fT (gu G (3 + l) c) v j ≤ fT (gu G (3 + l) c') v j := by
  by_cases z : j = l
  · rw [z]; exact capT_le hl hc
  · rw [cap_T hl z, cap_T hl z]; exact Nat.le_refl _
theorem capS_le (hl : l < 10) (hc : c ≤ c') : fS (gu G (3 + l) c) v ≤ fS (gu G (3 + l) c') v := by
  have k1 : ∀ n, fML (gu G (3 + l) c) v n ≤ fML (gu G (3 + l) c') v n := by
    intro n
    induction n with
    | zero => exact Nat.le_refl _
    | succ n ih =>
      show (if fOpL (gu G (3 + l) c) v n = true then min (fML (gu G (3 + l) c) v n) (fT (gu G (3 + l) c) v n) else fML (gu G (3 + l) c) v n) ≤ (if fOpL (gu G (3 + l) c') v n = true then min (fML (gu G (3 + l) c') v n) (fT (gu G (3 + l) c') v n) else fML (gu G (3 + l) c') v n)
      rw [cap_opL hl, cap_opL hl]
      have := capT_any (G := G) (v := v) hl hc n
      by_cases z : fOpL G v n = true
      · rw [if_pos z, if_pos z]; omega
      · rw [if_neg z, if_neg z]; exact ih
  have k2 : ∀ n, fMF (gu G (3 + l) c) v n ≤ fMF (gu G (3 + l) c') v n := by
    intro n
    induction n with
    | zero => exact k1 10
    | succ n ih =>
      show (if fOp (gu G (3 + l) c) v n = true then min (fMF (gu G (3 + l) c) v n) (gOwn (gu G (3 + l) c) n) else fMF (gu G (3 + l) c) v n) ≤ (if fOp (gu G (3 + l) c') v n = true then min (fMF (gu G (3 + l) c') v n) (gOwn (gu G (3 + l) c') n) else fMF (gu G (3 + l) c') v n)
      rw [cap_op hl, cap_op hl, cap_own hl, cap_own hl]
      by_cases z : fOp G v n = true
      · rw [if_pos z, if_pos z]; omega
      · rw [if_neg z, if_neg z]; exact ih
  exact k2 20
theorem lv_later (I : IQ G) (B : IB G) {k f : Nat} (hf : f < 20) (ht : gTh G f = true) (ho : fV G k f = none) : fS G (fV G k) ≤ gLv G f ∧ (gLv G f = fS G (fV G k) → fX G (fV G k) f = true) := by
  obtain ⟨j, hj, hx, e⟩ := gLv_step I hf ht
  have hkj : k ≤ j := by
    rcases Nat.lt_or_ge j k with z | z
    · rw [fV_at z hf hx] at ho; cases ho
    · exact z
  obtain ⟨d, rfl⟩ : ∃ d, j = k + d := ⟨j - k, by omega⟩
  have h1 := fS_mono I B (j := k) d hj
  refine ⟨by rw [e]; exact h1, fun y => ?_⟩
  cases d with
  | zero => exact hx
  | succ d =>
    exfalso
    have h2 := fS_up I B (k := k) (by omega)
    have h3 := fS_mono I B (j := k + 1) d (by omega)
    rw [show k + 1 + d = k + (d + 1) by omega] at h3
    omega
theorem any_steps (I : IQ G) {k : Nat} (h : fAny G (fV G k) = true) : k < fSteps G := by
  rcases Nat.lt_or_ge k (fSteps G) with z | z
  · exact z
  · exfalso
    have h0 := fSteps_end I
    have := fV_stay h0 (k - fSteps G)
    rw [show fSteps G + (k - fSteps G) = k by omega] at this
    rw [this, h0] at h
    cases h
theorem cap_any (hl : l < 10) : fAny (gu G (3 + l) c) v = fAny G v := an_cong (fun f _ => cap_op hl)
theorem fX_of {G : GR} {v : LV} {f : Nat} (ho : fOp G v f = true) (h : gOwn G f = fS G v ∨ ∃ j, j < 10 ∧ (gPath G f).testBit j = true ∧ fK G v j = true) : fX G v f = true := by
  unfold fX
  rw [ho, Bool.true_and]
  rcases h with h | ⟨j, hj, h1, h2⟩
  · rw [h]; simp
  · have : an (fun l => (gPath G f).testBit l && fK G v l) 10 = true := an_iff.mpr ⟨j, hj, by rw [h1, h2]; rfl⟩
    rw [this]
    rfl
theorem fX_to {G : GR} {v : LV} {f : Nat} (h : fX G v f = true) : fOp G v f = true ∧ (gOwn G f = fS G v ∨ ∃ j, j < 10 ∧ (gPath G f).testBit j = true ∧ fK G v j = true) := by
  refine ⟨fX_op h, ?_⟩
  unfold fX at h
  rw [fX_op h, Bool.true_and, Bool.or_eq_true] at h
  rcases h with h | h
  · obtain ⟨j, hj, y⟩ := an_iff.mp h
    have := (Bool.and_eq_true _ _).mp y
    exact Or.inr ⟨j, hj, this.1, this.2⟩
  · exact Or.inl (by simpa using h)
theorem fK_to {G : GR} {v : LV} {j : Nat} (h : fK G v j = true) : fOpL G v j = true ∧ fT G v j = fS G v := by simpa [fK] using h
theorem fK_of {G : GR} {v : LV} {j : Nat} (h1 : fOpL G v j = true) (h2 : fT G v j = fS G v) : fK G v j = true := by simp [fK, h1, h2]
theorem cap_side (hl : l < 10) (I : IQ G) (B : IB G) (hb : gBnd G l ≤ c) (h1 : c ≤ c') (h2 : c' ≤ gCap G l) (hA : ∀ f, f < 20 → gTh G f = true → gLv (gu G (3 + l) c) f = gLv G f) : ∀ f, f < 20 → gTh G f = true → gLv (gu G (3 + l) c') f = gLv G f := by
  have hcap := I.1 l hl
  have hcap' : gCap G l ≤ 1000000 := hcap
  have eG : gu G (3 + l) (gCap G l) = G := gu_same rfl
  have IA := cap_iq (v := c) I hl (by omega)
  have BA := cap_ib (v := c) B hl hb
  have IB' := cap_iq (v := c') I hl (by omega)
  have H : HI G (gu G (3 + l) c) := HI.cap hl
  have key : ∀ k, fV (gu G (3 + l) c) k = fV G k ∧ fV (gu G (3 + l) c') k = fV G k := by
    intro k
    induction k with
    | zero => exact ⟨rfl, rfl⟩
    | succ k ih =>
      obtain ⟨eA, eB⟩ := ih
      show fN (gu G (3 + l) c) (fV (gu G (3 + l) c) k) = fN G (fV G k) ∧ fN (gu G (3 + l) c') (fV (gu G (3 + l) c') k) = fN G (fV G k)
      rw [eA, eB]
      cases ea : fAny G (fV G k) with
      | false => rw [fN_stop ea, fN_stop (by rw [cap_any hl]; exact ea), fN_stop (by rw [cap_any hl]; exact ea)]; exact ⟨rfl, rfl⟩
      | true =>
        have kG := any_steps I ea
        have eaA : fAny (gu G (3 + l) c) (fV (gu G (3 + l) c) k) = true := by rw [eA, cap_any hl]; exact ea
        have kA := any_steps IA eaA
        -- open ones
        have op : ∀ f, fOp G (fV G k) f = true → gTh G f = true ∧ fV G k f = none := fun f z => fOp_th z
        have S1 : fS G (fV G k) ≤ fS (gu G (3 + l) c) (fV G k) := by
          obtain ⟨f, hf, hx⟩ := fX_some IA eaA
          rw [eA] at hx
          have o := fX_op hx
          rw [cap_op hl] at o
          obtain ⟨t, no⟩ := op f o
          have e1 := gLv_of (G := gu G (3 + l) c) kA hf (by rw [eA]; exact hx)
          rw [eA] at e1
          have := (lv_later I B hf t no).1
          rw [← hA f hf t, e1] at this
          exact this
        have S2 : fS (gu G (3 + l) c) (fV G k) ≤ fS G (fV G k) := by
          have := capS_le (G := G) (v := fV G k) hl (show c ≤ gCap G l by omega)
          rw [eG] at this
          exact this
        have SA : fS (gu G (3 + l) c) (fV G k) = fS G (fV G k) := by omega
        have SB : fS (gu G (3 + l) c') (fV G k) = fS G (fV G k) := by
          have y1 := capS_le (G := G) (v := fV G k) hl h1
          have y2 := capS_le (G := G) (v := fV G k) hl h2
          rw [eG] at y2
          omega
        have XA : ∀ f, f < 20 → fX (gu G (3 + l) c) (fV G k) f = true → fX G (fV G k) f = true := by
          intro f hf hx
          have o := fX_op hx
          rw [cap_op hl] at o
          obtain ⟨t, no⟩ := op f o
          have e1 := gLv_of (G := gu G (3 + l) c) kA hf (by rw [eA]; exact hx)
          rw [eA, SA, hA f hf t] at e1
          exact (lv_later I B hf t no).2 e1
        have GB : ∀ f, f < 20 → fX G (fV G k) f = true → fX (gu G (3 + l) c') (fV G k) f = true := by
          intro f hf hx
          obtain ⟨o, hx⟩ := fX_to hx
          refine fX_of (by rw [cap_op hl]; exact o) ?_
          rw [cap_own hl, cap_path hl, SB]
          rcases hx with hx | ⟨j, hj, b, hk⟩
          · exact Or.inl hx
          · obtain ⟨k1, k2⟩ := fK_to hk
            refine Or.inr ⟨j, hj, b, fK_of (by rw [cap_opL hl]; exact k1) ?_⟩
            rw [SB]
            have y1 := capT_any (G := G) (v := fV G k) hl h2 j
            rw [eG] at y1
            have y2 := fS_tide (G := gu G (3 + l) c') (v := fV G k) hj (by rw [cap_opL hl]; exact k1)
            rw [SB] at y2
            omega
        have BA' : ∀ f, f < 20 → fX (gu G (3 + l) c') (fV G k) f = true → fX (gu G (3 + l) c) (fV G k) f = true := by
          intro f hf hx
          obtain ⟨o, hx⟩ := fX_to hx
          rw [cap_op hl] at o
          rw [cap_own hl, cap_path hl, SB] at hx
          refine fX_of (by rw [cap_op hl]; exact o) ?_
          rw [cap_own hl, cap_path hl, SA]
          rcases hx with hx | ⟨j, hj, b, hk⟩
          · exact Or.inl hx
          · obtain ⟨k1, k2⟩ := fK_to hk
            rw [cap_opL hl] at k1
            rw [SB] at k2
            refine Or.inr ⟨j, hj, b, fK_of (by rw [cap_opL hl]; exact k1) ?_⟩
            rw [SA]
            have y1 := capT_any (G := G) (v := fV G k) hl h1 j
            have y2 := fS_tide (G := gu G (3 + l) c) (v := fV G k) hj (by rw [cap_opL hl]; exact k1)
            rw [SA] at y2
            omega
        have GA : ∀ f, f < 20 → fX G (fV G k) f = true → fX (gu G (3 + l) c) (fV G k) f = true := fun f hf z => BA' f hf (GB f hf z)
        have BG : ∀ f, f < 20 → fX (gu G (3 + l) c') (fV G k) f = true → fX G (fV G k) f = true := fun f hf z => XA f hf (BA' f hf z)
        constructor
        · funext f
          unfold fN
          rw [SA]
          exact ic (propext ⟨fun z => ⟨z.1, XA f z.1 z.2⟩, fun z => ⟨z.1, GA f z.1 z.2⟩⟩)
        · funext f
          unfold fN
          rw [SB]
          exact ic (propext ⟨fun z => ⟨z.1, BG f z.1 z.2⟩, fun z => ⟨z.1, GB f z.1 z.2⟩⟩)
  intro f hf ht
  unfold gLv
  rw [← fV_20 IB', ← fV_20 I, (key 20).2]
end
