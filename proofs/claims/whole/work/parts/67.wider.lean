/-! ===== another capacity on paper: wider, tight ===== -/
section
variable {n N b p w f l v : Nat} {h m h2 m2 : th_H} {G Gp : GR}
theorem c_setCap (R : RP p h G) (hl : l < 10) (v : Nat) : ∃ h2, fX0_setCapacity p (nI l) (nI v) h = some ((), h2) ∧ RP p h2 (gu G (3 + l) v) ∧ h2.1 p 8 = h.1 p 8 + 1 ∧ (∀ c, (c < p ∨ p + 1 < c) → h2.1 c = h.1 c) := by
  unfold fX0_setCapacity
  rw [e_wr hl (by omega), e_st]
  refine ⟨_, rfl, R.cap hl _, ?_, fun c hc => ?_⟩
  · rw [up_same, up_cell (by omega)]
  · rw [up_cell (by omega), up_cell (by omega)]
theorem cap_iq (I : IQ G) (hl : l < 10) (hv : v ≤ 1000000) : IQ (gu G (3 + l) v) := by
  have H : HI G (gu G (3 + l) v) := HI.cap hl
  refine ⟨fun j hj => ?_, fun g hg => ?_⟩
  · rw [gCap_up]
    split
    · exact hv
    · exact I.1 j hj
  · rw [H.th]
    unfold gPath gWt gLeast gWant
    rw [H _ (by omega), H _ (by omega), H _ (by omega), H _ (by omega), H _ (by omega)]
    exact I.2 g hg
theorem cap_ib (B : IB G) (hl : l < 10) (hv : gBnd G l ≤ v) : IB (gu G (3 + l) v) := by
  have H : HI G (gu G (3 + l) v) := HI.cap hl
  intro j hj
  rw [H.bnd, gCap_up]
  by_cases z : j = l
  · rw [if_pos z, z]; exact hv
  · rw [if_neg z]; exact B j hj
theorem HI.rate (H : HI G Gp) (f t : Nat) : gRate Gp f t = gRate G f t := by unfold gRate gWt gLeast; rw [H _ (by omega), H _ (by omega)]
theorem m_fairRateH (R : RM h G) (H : HI G Gp) (M : FM Gp (fSteps Gp) h) (IG : IQ G) (I : IQ Gp) (B : IB Gp) (hf : f < 20) (ht : gTh G f = true) : fX4_fairRate (nI f) h = some (nI (gRate Gp f (gLv Gp f)), h) := by
  have hl := gLv_le I B f
  unfold fX4_fairRate
  rw [e_rd hf (by omega), lv_th M I hf (by rw [H.th]; exact ht), m_rate R IG hf ht (by omega), e_bd, H.rate]
theorem m_allRatesH (R : RM h G) (H : HI G Gp) (M : FM Gp (fSteps Gp) h) (IG : IQ G) (I : IQ Gp) (B : IB Gp) : fX4_allRates h = some (nI (gRs Gp (gTh G)), h) := by
  unfold fX4_allRates gRs
  refine for_up 20 (fun fu i => fX4_allRates_c4 fu (nI (fb_sm (fun f => if gTh G f = true then gRate Gp f (gLv Gp f) else 0) i)) (nI i) h) _ ?_ ?_ (by omega)
  · intro fu i hi
    rw [fX4_allRates_c4, if_pos (show nI i < (20 : Int32) from nI_lt (a := i) (b := 20) hi (by omega)), m_isFlow R IG hi, e_bd, ic e_c0, fb_sm_succ, nI_1]
    by_cases c : gTh G i = true
    · rw [if_neg (not_not_intro c), if_pos c, m_fairRateH R H M IG I B hi c, e_bd, nI_add]
    · rw [if_pos c, if_neg c, show (0 : Int32) = nI 0 from rfl, nI_add]
  · intro fu
    rw [fX4_allRates_c4, if_neg (by decide)]
theorem widen_ok (P : PA0 N b G h m) (hN : N ≤ 600) (hb : b + 2 ≤ 100 * N) (hl : l < 10) {k : Nat} (hk : k < 2147483648) (hv : v = gCap G l + min k (1000000 - gCap G l)) : ∃ h2, fX3_widen (nI l) (nI k) h = some ((), h2) ∧ FWt 45 (gu G (3 + l) v) h2 ∧ PA N (b + 2) G (gu G (3 + l) v) h2 m ∧ (∀ c, (c < 28 ∨ 52 < c) → h2.1 c = h.1 c) := by
  have I := P.1.2.2.1
  have hc : gCap G l ≤ 1000000 := I.1.1.1 l hl
  have hB := I.1.2.1 l hl
  have v3 : h.1 3 l = nI (gCap G l) := P.1.rp.1 l hl
  obtain ⟨h2, q2, P2, hk2⟩ := P.sheet (by omega)
  obtain ⟨h3, q3, rp3, e8, ec⟩ := c_setCap P2.2.1 hl v
  have P3 := P2.edit (fun c hc => ec c (by omega)) e8 rp3 (by omega)
  obtain ⟨h4, q4, F4, P4, hk4⟩ := P3.rise hN (cap_iq I.1.1 hl (by omega)) (cap_ib I.1.2.1 hl (by omega))
  unfold fX3_widen
  rw [e_rd hl (by omega), v3, q2, e_bd, show (1000000 : Int32) = nI 1000000 from rfl, pk_sub hc, e_mn (by omega) (by omega), nI_add, ← hv, q3, e_bd, q4, e_bd]
  exact ⟨h4, rfl, F4, P4, fun c hc => by rw [hk4 c (by omega), ec c (by omega), hk2 c (by omega)]⟩
theorem many0 : (mk (gTh G) 20 = 0) = (gMany G = 0) := by
  apply propext
  unfold gMany
  rw [bits0 (mk_lt _ 20), fb_ct_zero]
  exact ⟨fun z i hi => by have := z i hi; rwa [mk20_bit _ hi] at this, fun z i hi => by rw [mk20_bit _ hi]; exact z i hi⟩
/-- the reference's row with another capacity, and back -/
theorem m_capFair (R : RM m G) (I : IQ G) (hl : l < 10) (IQ' : IQ (gu G (3 + l) v)) (IB' : IB (gu G (3 + l) v)) : ∃ m2, fX4_layFair (th_up m 2 (3 + l) (nI v)) = some ((), m2) ∧ FM (gu G (3 + l) v) (fSteps (gu G (3 + l) v)) (th_up m2 2 (3 + l) (nI (G (3 + l)))) ∧ RM (th_up m2 2 (3 + l) (nI (G (3 + l)))) G ∧ (∀ c, c ≠ 0 → c ≠ 2 → (c < 7 ∨ 13 < c) → (th_up m2 2 (3 + l) (nI (G (3 + l)))).1 c = m.1 c) := by
  have M : MF m (th_up m 2 (3 + l) (nI v)) (gu G (3 + l) v) := (MF.rf R).up
  obtain ⟨m2, q, F, Z⟩ := m_layFair M.1 IQ' IB'
  have rm2 := Z.row M.1
  refine ⟨m2, q, ?_, fun j hj => ?_, fun c c0 c2 c7 => ?_⟩
  · obtain ⟨a, b, c, d⟩ := F
    refine ⟨?_, fun f hf => ?_, fun j hj => ?_, fun j f hj hf hx => ?_⟩
    · rw [up_cell (by omega)]; exact a
    · rw [up_cell (by omega)]; exact b f hf
    · rw [up_cell (by omega), up_cell (by omega), up_cell (by omega)]; exact c j hj
    · rw [up_cell (by omega), up_cell (by omega)]; exact d j f hj hf hx
  · rw [up_at]
    by_cases z : j = 3 + l
    · rw [if_pos ⟨rfl, z⟩, z]
    · rw [if_neg (fun y => z y.2), rm2 j hj, gu_ne z]
  · rw [up_cell c2, Z.1 c c0 c7, M.2.1 c c2]
end
theorem s_wider (x y z : Int32) : Sp2 (fX3_wider x y z) (fX4_wider x y z) := by
  intro n h m hn ⟨G, R⟩
  have R0 := R.th0
  have I := R.2.2.1
  unfold fX3_wider fX4_wider
  have e3 : (z < 0) = (z.toInt < 0) := e_xlt z 0 (by decide)
  have e4 : (1 < z) = (1 < z.toInt) := e_ltx z 1 (by decide)
  rw [c_isLink, e_bd, e_st, m_isLink, e_bd, ic e_c0, ic e_c0, ic e3, ic e4, m_inl z 0 1 (by decide) (by decide), e_bd, ic e_c0]
  have out : ∃ r h2 m2, some ((-2147483648 : Int32), h) = some (r, h2) ∧ some ((-2147483648 : Int32), th_up m 0 0 0) = some (r, m2) ∧ Rel (n + 1) h2 m2 := ⟨_, _, _, rfl, rfl, G, R0.inc⟩
  by_cases c : 0 ≤ x.toInt ∧ x.toInt ≤ 9
  · rw [if_neg (not_not_intro c), if_neg (not_not_intro c)]
    obtain ⟨l, hl, e⟩ := e_li x c
    subst e
    by_cases cy : y < 0
    · rw [if_pos cy, if_pos cy]; exact out
    · rw [if_neg cy, if_neg cy]
      obtain ⟨k, hk, e⟩ := nI_of cy
      subst e
      by_cases d : 0 ≤ z.toInt ∧ z.toInt ≤ 1
      · have d2 : ¬ ¬ ((OfNat.ofNat 0 : Int) ≤ z.toInt ∧ z.toInt ≤ (OfNat.ofNat 1 : Int)) := not_not_intro d
        have v7 : h.1 2 7 = nI (mk (gTh G) 20) := R.rp.2.2.2.2
        have hm : gMany G ≤ 20 := fb_ct_le _ 20
        rw [if_neg (show ¬ z.toInt < 0 by omega), if_neg (show ¬ 1 < z.toInt by omega), if_neg d2, v7, ic (e_eql (n := 0) (mk20 _) (by decide)), ic (show (mk (gTh G) 20 = (OfNat.ofNat 0 : Nat)) = (gMany G = 0) from many0), m_flowMany R0.2.1 R.iq, e_bd, ic (e_eql (n := 0) (show gMany G < 2147483648 by omega) (by decide))]
        by_cases k0 : gMany G = 0
        · rw [if_pos k0, if_pos k0]; exact out
        · have k0' : ¬ gMany G = (OfNat.ofNat 0 : Nat) := k0
          rw [if_neg k0, if_neg k0']
          have hc : gCap G l ≤ 1000000 := I.1.1.1 l hl
          have hB := I.1.2.1 l hl
          obtain ⟨v, hv⟩ : ∃ v, v = gCap G l + min k (1000000 - gCap G l) := ⟨_, rfl⟩
          obtain ⟨b0, hb0, P0⟩ := R0.pa0
          obtain ⟨h7, q7, F7, P7, -⟩ := widen_ok P0 (by omega) (by omega) hl hk hv
          obtain ⟨h8, q8, F8, P8, hk8⟩ := P7.now
          have F7' : FWt 45 (gu G (3 + l) v) h8 := FW.cells F7 (fun c a b => hk8 c (by omega))
          have IQ' := cap_iq (v := v) R.iq hl (by omega)
          have IB' := cap_ib (v := v) I.1.2.1 hl (by omega)
          have H : HI G (gu G (3 + l) v) := HI.cap hl
          obtain ⟨m9, y1, y2, y3⟩ := m_layFair R0.2.1 R.iq I.1.2.1
          have rm9 := y3.row R0.2.1
          obtain ⟨m2, z1, z2, z3, z4⟩ := m_capFair (v := v) rm9 R.iq hl IQ' IB'
          have me : ∀ j, j = 1 ∨ j = 3 ∨ j = 4 → (th_up m2 2 (3 + l) (nI (G (3 + l)))).1 j = (th_up m 0 0 0).1 j := fun j hj => by rw [z4 j (by omega) (by omega) (by omega), y3.1 j (by omega) (by omega)]
          have v8 : h8.1 2 7 = nI (mk (gTh G) 20) := P8.1.rp.2.2.2.2
          have g3 : G (3 + l) = gCap G l := rfl
          have fin : ∀ r : Int32, ∃ r' h2 m3, some (r, h8) = some (r', h2) ∧ some (r, th_up m2 2 (3 + l) (nI (G (3 + l)))) = some (r', m3) ∧ Rel (n + 1) h2 m3 := fun r => ⟨_, _, _, rfl, rfl, G, P8.1.mod z3 (me 1 (by omega)) (me 3 (by omega)) (me 4 (by omega))⟩
          have em : (if ((1000000 : Int32) - nI (gCap G l)) < nI k then fX4_wider_c87 (nI l) z (enc (gLL G)) (nI (gRs G (gTh G))) (nI (gCap G l)) (nI (3 + l)) 1000000 m9 else fX4_wider_c87 (nI l) z (enc (gLL G)) (nI (gRs G (gTh G))) (nI (gCap G l)) (nI (3 + l)) (nI (gCap G l) + nI k) m9) = fX4_wider_c87 (nI l) z (enc (gLL G)) (nI (gRs G (gTh G))) (nI (gCap G l)) (nI (3 + l)) (nI v) m9 := by
            rw [show (1000000 : Int32) = nI 1000000 from rfl, pk_sub hc, nI_add, ic (e_lt (show 1000000 - gCap G l < 2147483648 by omega) hk)]
            by_cases w : 1000000 - gCap G l < k
            · rw [if_pos w, show v = 1000000 by omega]
            · rw [if_neg w, show v = gCap G l + k by omega]
          rw [q7, e_bd, q8, e_bd, c_leastLevel P8.2.1 F7' IQ' IB', e_bd, c_leastLevel P8.1.rp F8 R.iq I.1.2.1, e_bd, v8, c_ratesOf P8.2.1 F7' IQ' IB' (fun f _ hx => by rw [H.th]; exact hx), e_bd, v8, c_ratesOf P8.1.rp F8 R.iq I.1.2.1 (fun f _ hx => hx), e_bd, y1, e_bd, m_leastLevel y2, e_bd, m_allRates rm9 y2 R.iq I.1.2.1, e_bd, e_ladd, m_row rm9 (by omega), g3, em]
          unfold fX4_wider_c87
          rw [e_wr (by omega) (by omega), z1, e_bd, e_ladd, e_wr (by omega) (by omega), ← g3, m_leastLevel z2, e_bd, m_allRatesH z3 H z2 R.iq IQ' IB', e_bd]
          by_cases k1 : z = 0
          · rw [if_pos k1, if_pos k1]; exact fin _
          · rw [if_neg k1, if_neg k1]; exact fin _
      · have d2 : ¬ ((OfNat.ofNat 0 : Int) ≤ z.toInt ∧ z.toInt ≤ (OfNat.ofNat 1 : Int)) := d
        rw [if_pos d2]
        by_cases w : z.toInt < 0
        · rw [if_pos w]; exact out
        · rw [if_neg w, if_pos (show 1 < z.toInt by omega)]; exact out
  · rw [if_pos c, if_pos c]; exact out
/-! a link without flows -/
section
variable {l c : Nat} {G : GR} {v : LV}
theorem unO (hl : l < 10) (hu : gUse G l = false) : fOpL G v l = false := by
  cases e : fOpL G v l with
  | false => rfl
  | true =>
    obtain ⟨f, hf, h1⟩ := an_iff.mp e
    have : gUse G l = true := an_iff.mpr ⟨f, hf, ((Bool.and_eq_true _ _).mp h1).1⟩
    rw [hu] at this
    cases this
theorem cap_op (hl : l < 10) {f : Nat} : fOp (gu G (3 + l) c) v f = fOp G v f := by
  have H : HI G (gu G (3 + l) c) := HI.cap hl
  unfold fOp
  rw [H.th]
theorem cap_opL (hl : l < 10) {j : Nat} : fOpL (gu G (3 + l) c) v j = fOpL G v j := by
  have H : HI G (gu G (3 + l) c) := HI.cap hl
  exact an_cong (fun f _ => by rw [H.ov])
theorem cap_W (hl : l < 10) {j t : Nat} : fW (gu G (3 + l) c) v j t = fW G v j t := by
  have H : HI G (gu G (3 + l) c) := HI.cap hl
  exact fb_sm_cong (fun f _ => by rw [H.ov, H.rate])
theorem cap_own (hl : l < 10) {f : Nat} : gOwn (gu G (3 + l) c) f = gOwn G f := by
  have H : HI G (gu G (3 + l) c) := HI.cap hl
  unfold gOwn gWant gWt
  rw [H _ (by omega), H _ (by omega)]
theorem cap_path (hl : l < 10) {f : Nat} : gPath (gu G (3 + l) c) f = gPath G f := by
  have H : HI G (gu G (3 + l) c) := HI.cap hl
  unfold gPath
  rw [H _ (by omega)]
theorem cap_T (hl : l < 10) {j : Nat} (hj : j ≠ l) : fT (gu G (3 + l) c) v j = fT G v j := gl_cong (fun t _ => by rw [cap_W hl, gCap_up, if_neg hj])
theorem un_ML (hl : l < 10) (hu : gUse G l = false) : ∀ n, fML (gu G (3 + l) c) v n = fML G v n := by
  intro n
  induction n with
  | zero => rfl
  | succ n ih =>
    show (if fOpL (gu G (3 + l) c) v n = true then min (fML (gu G (3 + l) c) v n) (fT (gu G (3 + l) c) v n) else fML (gu G (3 + l) c) v n) = (if fOpL G v n = true then min (fML G v n) (fT G v n) else fML G v n)
    rw [cap_opL hl, ih]
    by_cases z : n = l
    · rw [z, unO hl hu, if_neg (by decide), if_neg (by decide)]
    · rw [cap_T hl z]
theorem un_S (hl : l < 10) (hu : gUse G l = false) : fS (gu G (3 + l) c) v = fS G v := by
  have key : ∀ n, fMF (gu G (3 + l) c) v n = fMF G v n := by
    intro n
    induction n with
    | zero => exact un_ML hl hu 10
    | succ n ih =>
      show (if fOp (gu G (3 + l) c) v n = true then min (fMF (gu G (3 + l) c) v n) (gOwn (gu G (3 + l) c) n) else fMF (gu G (3 + l) c) v n) = (if fOp G v n = true then min (fMF G v n) (gOwn G n) else fMF G v n)
      rw [cap_op hl, cap_own hl, ih]
  exact key 20
theorem un_LL (hl : l < 10) (hu : gUse G l = false) (I : IQ G) (I' : IQ (gu G (3 + l) c)) : gLL (gu G (3 + l) c) = gLL G := by
  have any : ∀ v, fAny (gu G (3 + l) c) v = fAny G v := fun v => an_cong (fun f _ => cap_op hl)
  have e0 : (fSteps (gu G (3 + l) c) = 0) = (fSteps G = 0) := by
    apply propext
    have a1 : ∀ G : GR, IQ G → (fSteps G = 0 ↔ fAny G (fV G 0) = false) := by
      intro G I
      constructor
      · intro z
        have := fSteps_end I
        rw [z] at this
        exact this
      · intro z
        by_cases y : fSteps G = 0
        · exact y
        · have := fSteps_go (G := G) (k := 0) (by omega)
          rw [z] at this
          cases this
    rw [a1 _ I', a1 _ I, any]
    exact Iff.rfl
  unfold gLL
  rw [ic e0]
  have : fS (gu G (3 + l) c) (fV (gu G (3 + l) c) 0) = fS G (fV G 0) := un_S hl hu
  rw [this]
end
theorem s_tight : Sp2 fX3_tight fX4_tight := by
  intro n h m hn ⟨G, R⟩
  have R0 := R.th0
  have I := R.2.2.1
  obtain ⟨h1, q1, F1, R1⟩ := R0.rise
  obtain ⟨m2, y1, y2, y3⟩ := m_layFair R0.2.1 R.iq I.1.2.1
  have rm2 := y3.row R0.2.1
  unfold fX3_tight fX4_tight
  rw [e_st, q1, e_bd, c_leastLevel R1.rp F1 R.iq I.1.2.1, e_bd, y1, e_bd, m_leastLevel y2, e_bd]
  have me2 : ∀ j, j = 1 ∨ j = 3 ∨ j = 4 → m2.1 j = (th_up m 0 0 0).1 j := fun j hj => y3.1 j (by omega) (by omega)
  by_cases z0 : fSteps G = 0
  · have no := fSteps_0 R.iq z0
    have eL : gLL G = none := by unfold gLL; rw [if_pos z0]
    have cr : ∀ l, l < 10 → h1.1 4 l = nI 0 := fun l hl => by
      have : h1.1 4 l = nI (mk (fun f => gOv G f l) 20) := R1.rp.2.1 l hl
      have e0 : mk (fun f => gOv G f l) 20 = 0 := (bits0 (mk_lt _ 20)).mpr (fun i hi => by
        rw [mk20_bit _ hi]
        unfold gOv
        rw [no i hi, Bool.false_and])
      rw [this, e0]
    rw [eL]
    have cs : fX3_tight_c19 1000 (enc none) (-1) 0 h1 = some (-1, h1) := by
      refine for_up 10 (fun fu i => fX3_tight_c19 fu (enc none) (-1) (nI i) h1) _ ?_ ?_ (by omega)
      · intro fu i hi
        rw [fX3_tight_c19, if_pos (show nI i < (10 : Int32) from nI_lt (a := i) (b := 10) hi (by omega)), e_rd hi (by omega), cr i hi, if_pos nI_0, nI_1]
      · intro fu
        rw [fX3_tight_c19, if_neg (by decide)]
    have ms : fX4_tight_c18 1000 (enc none) (-1) 0 m2 = some (-1, m2) := by
      rw [show (1000 : Nat) = 999 + 1 from rfl, fX4_tight_c18, if_pos (by decide), if_pos (show enc none = -1 from rfl)]
    rw [cs, ms]
    exact ⟨_, _, _, rfl, rfl, G, R1.inc.mod rm2 (me2 1 (by omega)) (me2 3 (by omega)) (me2 4 (by omega))⟩
  · obtain ⟨t0, ht0⟩ : ∃ t0, gLL G = some t0 := ⟨_, by unfold gLL; rw [if_neg z0]⟩
    rw [ht0]
    obtain ⟨b0, hb0, P0⟩ := R1.pa0
    have t0b := gLL_le R.iq ht0
    have key : ∀ d l fu h' m' b t (x : Int32), l + d = 10 → d < fu → PA0 (n + 1) b G h' (th_up m 0 0 0) → b + 2 * d ≤ 100 * (n + 1) → RM m' G → (∀ k, k = 1 ∨ k = 3 ∨ k = 4 → m'.1 k = (th_up m 0 0 0).1 k) → t0 ≤ t → t ≤ 1000000 → ∃ r h2 m2, fX3_tight_c19 fu (nI t) x (nI l) h' = some (r, h2) ∧ fX4_tight_c18 fu (nI t) x (nI l) m' = some (r, m2) ∧ Rel (n + 1) h2 m2 := by
      intro d
      induction d with
      | zero =>
        intro l fu h' m' b t x hl hfu P hb rm me h0 h1
        obtain ⟨fu, rfl⟩ : ∃ z, fu = z + 1 := ⟨fu - 1, by omega⟩
        obtain rfl : l = 10 := by omega
        rw [fX3_tight_c19, if_neg (by decide), fX4_tight_c18, if_neg (by decide)]
        exact ⟨_, _, _, rfl, rfl, G, P.1.mod rm (me 1 (by omega)) (me 3 (by omega)) (me 4 (by omega))⟩
      | succ d ih =>
        intro l fu h' m' b t x hl hfu P hb rm me h0 h1
        obtain ⟨fu, rfl⟩ : ∃ z, fu = z + 1 := ⟨fu - 1, by omega⟩
        have hl2 : l < 10 := by omega
        have hc : gCap G l ≤ 1000000 := I.1.1.1 l hl2
        have hB := I.1.2.1 l hl2
        obtain ⟨v, hv⟩ : ∃ v, v = gCap G l + min 100 (1000000 - gCap G l) := ⟨_, rfl⟩
        have IQ' := cap_iq (v := v) R.iq hl2 (by omega)
        have IB' := cap_ib (v := v) I.1.2.1 hl2 (by omega)
        have v4 : h'.1 4 l = nI (mk (fun f => gOv G f l) 20) := P.1.rp.2.1 l hl2
        obtain ⟨m7, z1, z2, z3, z4⟩ := m_capFair (v := v) rm R.iq hl2 IQ' IB'
        have me7 : ∀ j, j = 1 ∨ j = 3 ∨ j = 4 → (th_up m7 2 (3 + l) (nI (G (3 + l)))).1 j = (th_up m 0 0 0).1 j := fun j hj => by rw [z4 j (by omega) (by omega) (by omega)]; exact me j hj
        have g3 : G (3 + l) = gCap G l := rfl
        have ne1 : ¬ nI t = -1 := by rw [e_ne1 (by omega)]; exact id
        rw [fX3_tight_c19, if_pos (show nI l < (10 : Int32) from nI_lt (a := l) (b := 10) hl2 (by omega)), e_rd hl2 (by omega), v4, ic (e_eql (n := 0) (mk20 _) (by decide)), ic (crowd0 l), nI_1, fX4_tight_c18, if_pos (show nI l < (10 : Int32) from nI_lt (a := l) (b := 10) hl2 (by omega)), if_neg ne1, e_ladd, m_row rm (by omega), g3, show nI (gCap G l) + 100 = nI (gCap G l + 100) from e_addl _ 100, show (1000000 : Int32) = nI 1000000 from rfl, m_lesser (by omega) (by omega), e_bd, show min 1000000 (gCap G l + 100) = v by omega, e_wr (by omega) (by omega), z1, e_bd, e_wr (by omega) (by omega), ← g3, m_leastLevel z2, e_bd]
        simp only [fX4_tight_c84, m_leastLevel z2, e_bd, nI_1]
        by_cases u : gUse G l = true
        · obtain ⟨h4, q4, F4, P4, -⟩ := widen_ok P (by omega) (by omega) hl2 (k := 100) (by omega) hv
          have q4' : fX3_widen (nI l) 100 h' = some ((), h4) := q4
          rw [if_neg (not_not_intro u), q4', e_bd, c_leastLevel P4.2.1 F4 IQ' IB', e_bd, c_leastLevel P4.2.1 F4 IQ' IB', e_bd]
          cases eL : gLL (gu G (3 + l) v) with
          | none =>
            have nlt : ¬ nI t < enc none := by
              show ¬ nI t < (-1 : Int32)
              rw [fa_lt, nI_toInt (by omega)]
              have : (-1 : Int32).toInt = -1 := by decide
              omega
            rw [if_neg nlt, if_neg nlt, if_neg nlt]
            exact ih (l + 1) fu h4 _ (b + 2) t x (by omega) (by omega) P4.pa0 (by omega) z3 me7 h0 h1
          | some t1 =>
            have t1b := gLL_le IQ' eL
            show ∃ r h2 m2, (if nI t < nI t1 then _ else _) = _ ∧ (if nI t < nI t1 then _ else _) = _ ∧ _
            by_cases w : nI t < nI t1
            · rw [if_pos w, if_pos w]
              have w2 : (if nI t < enc (some t1) then fX4_tight_c18 fu (enc (some t1)) (nI l) (nI (l + 1)) (th_up m7 2 (3 + l) (nI (G (3 + l)))) else fX4_tight_c18 fu (nI t) (nI l) (nI (l + 1)) (th_up m7 2 (3 + l) (nI (G (3 + l))))) = fX4_tight_c18 fu (nI t1) (nI l) (nI (l + 1)) (th_up m7 2 (3 + l) (nI (G (3 + l)))) := if_pos w
              rw [w2]
              rw [e_lt (by omega) (by omega)] at w
              exact ih (l + 1) fu h4 _ (b + 2) t1 (nI l) (by omega) (by omega) P4.pa0 (by omega) z3 me7 (by omega) t1b
            · rw [if_neg w, if_neg w]
              have w2 : (if nI t < enc (some t1) then fX4_tight_c18 fu (enc (some t1)) x (nI (l + 1)) (th_up m7 2 (3 + l) (nI (G (3 + l)))) else fX4_tight_c18 fu (nI t) x (nI (l + 1)) (th_up m7 2 (3 + l) (nI (G (3 + l))))) = fX4_tight_c18 fu (nI t) x (nI (l + 1)) (th_up m7 2 (3 + l) (nI (G (3 + l)))) := if_neg w
              rw [w2]
              exact ih (l + 1) fu h4 _ (b + 2) t x (by omega) (by omega) P4.pa0 (by omega) z3 me7 h0 h1
        · have u2 : gUse G l = false := by simpa using u
          have eL : gLL (gu G (3 + l) v) = some t0 := by rw [un_LL hl2 u2 R.iq IQ']; exact ht0
          have nlt : ¬ nI t < enc (some t0) := by
            show ¬ nI t < nI t0
            rw [e_lt (by omega) (by omega)]
            omega
          rw [if_pos u, eL, if_neg nlt, if_neg nlt]
          exact ih (l + 1) fu h' _ b t x (by omega) (by omega) P (by omega) z3 me7 h0 h1
    exact key 10 0 1000 h1 m2 b0 t0 (-1) (by omega) (by omega) P0 (by omega) rm2 me2 (Nat.le_refl _) t0b
