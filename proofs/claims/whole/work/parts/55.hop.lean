/-! ===== letters under way ===== -/
def W3 (f : Nat) (G G' : GR) : Prop := ∀ k, k ≠ 23 + 11 * f + 8 → k ≠ 23 + 11 * f + 9 → k ≠ 23 + 11 * f + 10 → G' k = G k
def nxF (G : GR) (f : Nat) : Nat → Nat → Option Nat
  | 0, _ => none
  | d + 1, i => if gOv G f i = true then some i else nxF G f d (i + 1)
def pvF (G : GR) (f : Nat) : Nat → Option Nat
  | 0 => none
  | l + 1 => if gOv G f l = true then some l else pvF G f l
def oE : Option Nat → Nat
  | none => 4294967295
  | some v => v
theorem enc_oE (o : Option Nat) : enc o = nI (oE o) := by
  cases o with
  | none => exact e_m1
  | some v => rfl
section
variable {q f : Nat} {h h2 m : th_H} {G G' : GR}
theorem W3.sp (W : W3 f G G') : SP G G' := ⟨fun l hl => W _ (by omega) (by omega) (by omega), fun g j hg hj => W _ (by omega) (by omega) (by omega)⟩
theorem W3.adv (W : W3 f G G') (hf : f < 20) {l : Nat} (hl : l < 10) : gAdv G' l = gAdv G l := gAdv_sq W.sp.sq (fun k hk => W k (by omega) (by omega) (by omega)) hl
theorem RQ.way (R : RQ q h G) (W : W3 f G G') (hf : f < 20) (ht : gTh G f = true) (Z : PZ q h h2) (ec : ∀ c, q + 9 ≤ c → c ≤ q + 12 → h2.1 c = h.1 c) (eq : ∀ j, j ≤ 11 → h2.1 q j = h.1 q j) (eo : ∀ g, g ≠ f → h2.1 (q + 13) g = h.1 (q + 13) g ∧ h2.1 (q + 14) g = h.1 (q + 14) g ∧ h2.1 (q + 15) g = h.1 (q + 15) g) (w8 : h2.1 (q + 13) f = nI (gWay G' f)) (w9 : gWay G' f ≠ 0 → h2.1 (q + 14) f = nI (gWl G' f) ∧ h2.1 (q + 15) f = nI (gWh G' f)) : RQ q h2 G' := by
  have R' := R
  obtain ⟨a, b, c, d, e, g, i, j, k⟩ := R
  refine RQ.re R' W.sp Z (fun l hl => ?_) (fun g hg hg2 => ?_) (fun g hg hg2 => ?_) (eq 8 (by omega)) ?_ ?_ ?_
  · unfold gLose
    rw [ec _ (by omega) (by omega), W _ (by omega) (by omega) (by omega)]
    exact c l hl
  · obtain ⟨d1, d2, d3, d4⟩ := d g hg hg2
    have t7 : gTold G' g = gTold G g := W _ (by omega) (by omega) (by omega)
    rw [ec (q + 9) (by omega) (by omega), ec (q + 10) (by omega) (by omega), ec (q + 11) (by omega) (by omega), t7]
    have ka : ∀ l, l < 10 → h.1 (q + 9) (g * 10 + l) = nI (gAh G' g l) ∧ h.1 (q + 10) (g * 10 + l) = nI (gBh G' g l) := by
      intro l hl
      unfold gAh gBh
      rw [W _ (by omega) (by omega) (by omega), W _ (by omega) (by omega) (by omega)]
      exact d4 l hl
    by_cases z : g = f
    · subst z
      exact ⟨d1, w8, w9, ka⟩
    · obtain ⟨o1, o2, o3⟩ := eo g z
      have t8 : gWay G' g = gWay G g := W _ (by omega) (by omega) (by omega)
      have t9 : gWl G' g = gWl G g := W _ (by omega) (by omega) (by omega)
      have t10 : gWh G' g = gWh G g := W _ (by omega) (by omega) (by omega)
      rw [o1, o2, o3, t8, t9, t10]
      exact ⟨d1, d2, d3, ka⟩
  · have z : g ≠ f := fun z => by rw [z, ht] at hg2; cases hg2
    rw [ec (q + 9) (by omega) (by omega), ec (q + 10) (by omega) (by omega), ec (q + 11) (by omega) (by omega), (eo g z).1]
    exact e g hg hg2
  · rw [eq 9 (by omega), W _ (by omega) (by omega) (by omega)]; exact i
  · rw [eq 10 (by omega), W _ (by omega) (by omega) (by omega)]; exact j
  · rw [eq 11 (by omega), W _ (by omega) (by omega) (by omega)]; exact k
theorem II.way (I : II G) (W : W3 f G G') (hf : f < 20) (hw : gWay G' f ≤ 2) (hw2 : gWay G' f ≠ 0 → gWl G' f < 10 ∧ (gPath G f).testBit (gWl G' f) = true ∧ gWh G' f ≤ 1000000) (b9 : gWl G' f < 4294967296) (b10 : gWh G' f < 4294967296) : II G' := by
  have S := W.sp
  obtain ⟨⟨a, b, e, ls, bg⟩, i2, i3⟩ := I
  refine ⟨⟨S.IQ a, S.IB b, fun g hg ht l hl => ?_, fun l hl => by rw [W _ (by omega) (by omega) (by omega)]; exact ls l hl, fun k h1 h2 => ?_⟩, fun g g' hg hg' tg tg' e => ?_, fun g hg ht => ?_⟩
  · rw [S.th hg] at ht
    unfold gAh gBh
    rw [W _ (by omega) (by omega) (by omega), W _ (by omega) (by omega) (by omega)]
    exact e g hg ht l hl
  · by_cases z8 : k = 23 + 11 * f + 8
    · rw [z8]
      have : gWay G' f ≤ 2 := hw
      unfold gWay at this
      omega
    · by_cases z9 : k = 23 + 11 * f + 9
      · rw [z9]; exact b9
      · by_cases z10 : k = 23 + 11 * f + 10
        · rw [z10]; exact b10
        · rw [W k z8 z9 z10]; exact bg k h1 h2
  · rw [S.th hg] at tg
    rw [S.th hg'] at tg'
    rw [S.name hg, S.name hg'] at e
    exact i2 g g' hg hg' tg tg' e
  · rw [S.th hg] at ht
    obtain ⟨j1, j2, j3, j4, j5, j6⟩ := i3 g hg ht
    have t7 : gTold G' g = gTold G g := W _ (by omega) (by omega) (by omega)
    rw [S.name hg, S.held hg, S.path hg, t7]
    have ka : ∀ l, l < 10 → (gPath G g).testBit l = false → gAh G' g l = 1000000 ∧ gBh G' g l = 1000000 := by
      intro l hl hb
      unfold gAh gBh
      rw [W _ (by omega) (by omega) (by omega), W _ (by omega) (by omega) (by omega)]
      exact j6 l hl hb
    by_cases z : g = f
    · subst z
      exact ⟨j1, j2, j3, hw, hw2, ka⟩
    · have t8 : gWay G' g = gWay G g := W _ (by omega) (by omega) (by omega)
      have t9 : gWl G' g = gWl G g := W _ (by omega) (by omega) (by omega)
      have t10 : gWh G' g = gWh G g := W _ (by omega) (by omega) (by omega)
      rw [t8, t9, t10]
      exact ⟨j1, j2, j3, j4, j5, ka⟩
theorem nxF_sp (S : SP G G') (hf : f < 20) : ∀ d i, nxF G' f d i = nxF G f d i := by
  intro d
  induction d with
  | zero => intro i; rfl
  | succ d ih =>
    intro i
    show (if gOv G' f i = true then some i else nxF G' f d (i + 1)) = (if gOv G f i = true then some i else nxF G f d (i + 1))
    rw [S.ov hf, ih]
theorem pvF_sp (S : SP G G') (hf : f < 20) : ∀ l, pvF G' f l = pvF G f l := by
  intro l
  induction l with
  | zero => rfl
  | succ l ih =>
    show (if gOv G' f l = true then some l else pvF G' f l) = (if gOv G f l = true then some l else pvF G f l)
    rw [S.ov hf, ih]
theorem nxF_ok : ∀ d i r, i + d = 10 → nxF G f d i = some r → r < 10 ∧ gOv G f r = true := by
  intro d
  induction d with
  | zero => intro i r _ e; cases e
  | succ d ih =>
    intro i r hi e
    rw [nxF] at e
    by_cases c : gOv G f i = true
    · rw [if_pos c] at e
      have := Option.some.inj e
      rw [← this]
      exact ⟨by omega, c⟩
    · rw [if_neg c] at e
      exact ih (i + 1) r (by omega) e
theorem nxF_no : ∀ d i, i + d = 10 → nxF G f d i = none → ∀ r, i ≤ r → r < 10 → gOv G f r = false := by
  intro d
  induction d with
  | zero => intro i hi _ r h1 h2; omega
  | succ d ih =>
    intro i hi e r h1 h2
    rw [nxF] at e
    by_cases c : gOv G f i = true
    · rw [if_pos c] at e; cases e
    · rw [if_neg c] at e
      rcases Nat.lt_or_ge i r with z | z
      · exact ih (i + 1) (by omega) e r (by omega) h2
      · rw [show r = i by omega]; simpa using c
theorem pvF_ok : ∀ l r, pvF G f l = some r → r < l ∧ gOv G f r = true := by
  intro l
  induction l with
  | zero => intro r e; cases e
  | succ l ih =>
    intro r e
    rw [pvF] at e
    by_cases c : gOv G f l = true
    · rw [if_pos c] at e
      have := Option.some.inj e
      rw [← this]
      exact ⟨by omega, c⟩
    · rw [if_neg c] at e
      have := ih r e
      exact ⟨by omega, this.2⟩
theorem nx_some (I : IQ G) (hf : f < 20) (ht : gTh G f = true) : ∃ r, nxF G f 10 0 = some r := by
  cases e : nxF G f 10 0 with
  | some r => exact ⟨r, rfl⟩
  | none =>
    exfalso
    have h1 := nxF_no 10 0 (by omega) e
    obtain ⟨p0, p1, -⟩ := (I.2 f hf).2 ht
    have : gPath G f = 0 := (bits0 (n := 10) p1).mpr (fun i hi => by
      have := h1 i (Nat.zero_le _) hi
      unfold gOv at this
      rw [ht] at this
      exact this)
    omega
theorem c_lowest (R : RP (q + 1) h G) (I : IQ G) (hf : f < 20) : ∀ d i fu, i + d = 10 → d < fu → fX1_lowestFrom_c2 q fu (nI f) (nI i) h = some (enc (nxF G f d i), h) := by
  intro d
  induction d with
  | zero =>
    intro i fu hi hfu
    obtain ⟨fu, rfl⟩ : ∃ z, fu = z + 1 := ⟨fu - 1, by omega⟩
    obtain rfl : i = 10 := by omega
    rw [fX1_lowestFrom_c2, if_neg (by decide)]
    rfl
  | succ d ih =>
    intro i fu hi hfu
    obtain ⟨fu, rfl⟩ : ∃ z, fu = z + 1 := ⟨fu - 1, by omega⟩
    rw [fX1_lowestFrom_c2, if_pos (show nI i < (10 : Int32) from nI_lt (a := i) (b := 10) (by omega) (by omega)), c_goesOver R I hf (by omega), e_bd, ic e_c0, nI_1, nxF]
    by_cases c : gOv G f i = true
    · rw [if_neg (not_not_intro c), if_pos c]; rfl
    · rw [if_pos c, if_neg c]
      exact ih (i + 1) fu (by omega) (by omega)
theorem c_highest (R : RP (q + 1) h G) (I : IQ G) (hf : f < 20) : ∀ l fu, l ≤ 10 → l < fu → fX1_highestBelow_c4 q fu (nI f) (nI l + (-1)) h = some (enc (pvF G f l), h) := by
  intro l
  induction l with
  | zero =>
    intro fu hl hfu
    obtain ⟨fu, rfl⟩ : ∃ z, fu = z + 1 := ⟨fu - 1, by omega⟩
    rw [fX1_highestBelow_c4, if_pos (by decide)]
    rfl
  | succ l ih =>
    intro fu hl hfu
    obtain ⟨fu, rfl⟩ : ∃ z, fu = z + 1 := ⟨fu - 1, by omega⟩
    rw [fX1_highestBelow_c4, pk_m1, if_neg (nI_pos (by omega)), c_goesOver R I hf (by omega), e_bd, ic e_c0, pvF]
    by_cases c : gOv G f l = true
    · rw [if_neg (not_not_intro c), if_pos c]; rfl
    · rw [if_pos c, if_neg c]
      exact ih fu (by omega) (by omega)
theorem m_next (R : RM h G) (I : IQ G) (hf : f < 20) : ∀ d i fu, i + d = 10 → d < fu → fX4_nextLink_c5 fu (nI f) 1 (nI i) h = some (enc (nxF G f d i), h) := by
  intro d
  induction d with
  | zero =>
    intro i fu hi hfu
    obtain ⟨fu, rfl⟩ : ∃ z, fu = z + 1 := ⟨fu - 1, by omega⟩
    obtain rfl : i = 10 := by omega
    rw [fX4_nextLink_c5, m_isLink, e_bd, if_pos (by decide)]
    unfold fX4_nextLink_c32
    rw [m_isLink, e_bd, if_pos (by decide)]
    rfl
  | succ d ih =>
    intro i fu hi hfu
    obtain ⟨fu, rfl⟩ : ∃ z, fu = z + 1 := ⟨fu - 1, by omega⟩
    have e : (0 : Int) ≤ (nI i).toInt ∧ (nI i).toInt ≤ 9 := by rw [nI_toInt (by omega)]; omega
    rw [fX4_nextLink_c5, m_isLink, e_bd, if_pos e, if_neg (by decide), m_goesOver R I hf (by omega), e_bd, ic e_c0, nxF]
    by_cases c : gOv G f i = true
    · rw [if_neg (not_not_intro c), if_pos c]
      unfold fX4_nextLink_c32
      rw [m_isLink, e_bd, if_pos e, if_neg (by decide)]
      rfl
    · rw [if_pos c, if_neg c, nI_1]
      exact ih (i + 1) fu (by omega) (by omega)
theorem m_prev (R : RM h G) (I : IQ G) (hf : f < 20) : ∀ l fu, l ≤ 10 → l < fu → fX4_nextLink_c5 fu (nI f) (-1) (nI l + (-1)) h = some (enc (pvF G f l), h) := by
  intro l
  induction l with
  | zero =>
    intro fu hl hfu
    obtain ⟨fu, rfl⟩ : ∃ z, fu = z + 1 := ⟨fu - 1, by omega⟩
    rw [fX4_nextLink_c5, m_isLink, e_bd, if_pos (by decide)]
    unfold fX4_nextLink_c32
    rw [m_isLink, e_bd, if_pos (by decide)]
    rfl
  | succ l ih =>
    intro fu hl hfu
    obtain ⟨fu, rfl⟩ : ∃ z, fu = z + 1 := ⟨fu - 1, by omega⟩
    have e : (0 : Int) ≤ (nI l).toInt ∧ (nI l).toInt ≤ 9 := by rw [nI_toInt (by omega)]; omega
    rw [fX4_nextLink_c5, pk_m1, m_isLink, e_bd, if_pos e, if_neg (by decide), m_goesOver R I hf (by omega), e_bd, ic e_c0, pvF]
    by_cases c : gOv G f l = true
    · rw [if_neg (not_not_intro c), if_pos c]
      unfold fX4_nextLink_c32
      rw [m_isLink, e_bd, if_pos e, if_neg (by decide)]
      rfl
    · rw [if_pos c, if_neg c]
      exact ih fu (by omega) (by omega)
end
section
variable {n f : Nat} {h m : th_H} {G : GR}
theorem hop_begin (R : RelG n G h m) (hn : n < 512) (hf : f < 20) (ht : gTh G f = true) : ∃ h2 m2 G', (∀ {α : Type} (k : th_H → Option α), (th_st (th_up h 1 9 ((h.1 1 9) + 1)) fun h3 => th_wr h3 (1 + 13) 20 (nI f) 1 fun h4 => th_bd (fX1_lowestFrom 1 (nI f) 0 h4) fun u5 h5 => th_wr h5 (1 + 14) 20 (nI f) u5 fun h6 => th_bd (fX0_ownOf (1 + 1) (nI f) h6) fun u7 h7 => th_wr h7 (1 + 15) 20 (nI f) u7 fun h8 => k h8) = k h2) ∧ (∀ {α : Type} (k : th_H → Option α), (th_rd m 2 643 0 fun v8 => th_wr m 2 643 0 (v8 + 1) fun h9 => th_wr h9 2 643 (nI (23 + 11 * f) + 8) 1 fun h10 => th_bd (fX4_nextLink (nI f) (-1) 1 h10) fun u11 h11 => th_wr h11 2 643 (nI (23 + 11 * f) + 9) u11 fun h12 => th_bd (fX4_own (nI f) h12) fun u13 h13 => th_wr h13 2 643 (nI (23 + 11 * f) + 10) u13 fun h14 => k h14) = k m2) ∧ RelG n G' h2 m2 ∧ gTh G' f = true ∧ gWay G' f = 1 := by
  obtain ⟨r, hr⟩ := nx_some R.iq hf ht
  obtain ⟨r10, ro⟩ := nxF_ok 10 0 r (by omega) hr
  have A := R.2.2.1.1
  have hown := gOwn_le R.iq hf ht
  have q1 := R.1.count (k := 0) (v := G 0 + 1) (by omega) rfl
  obtain ⟨I0, S0⟩ := R.2.2.1.up (k := 0) (v := G 0 + 1) (Or.inl (by omega))
  let G' : GR := gu (gu (gu (gu G 0 (G 0 + 1)) (23 + 11 * f + 8) 1) (23 + 11 * f + 9) r) (23 + 11 * f + 10) (gOwn G f)
  have W : W3 f (gu G 0 (G 0 + 1)) G' := fun k z8 z9 z10 => by
    show gu (gu (gu (gu G 0 (G 0 + 1)) (23 + 11 * f + 8) 1) (23 + 11 * f + 9) r) (23 + 11 * f + 10) (gOwn G f) k = _
    rw [gu_ne z10, gu_ne z9, gu_ne z8]
  have w8 : gWay G' f = 1 := by
    show gu (gu (gu (gu G 0 (G 0 + 1)) (23 + 11 * f + 8) 1) (23 + 11 * f + 9) r) (23 + 11 * f + 10) (gOwn G f) (23 + 11 * f + 8) = _
    rw [gu_ne (by omega), gu_ne (by omega), gu_eq]
  have w9 : gWl G' f = r := by
    show gu (gu (gu (gu G 0 (G 0 + 1)) (23 + 11 * f + 8) 1) (23 + 11 * f + 9) r) (23 + 11 * f + 10) (gOwn G f) (23 + 11 * f + 9) = _
    rw [gu_ne (by omega), gu_eq]
  have w10 : gWh G' f = gOwn G f := by
    show gu (gu (gu (gu G 0 (G 0 + 1)) (23 + 11 * f + 8) 1) (23 + 11 * f + 9) r) (23 + 11 * f + 10) (gOwn G f) (23 + 11 * f + 10) = _
    rw [gu_eq]
  have ht0 : gTh (gu G 0 (G 0 + 1)) f = true := by rw [S0.th hf]; exact ht
  have S' : SP G G' := S0.tr W.sp
  let h2 : th_H := th_up (th_up (th_up (th_up h 1 9 (nI (G 0 + 1))) 14 f (nI 1)) 15 f (nI r)) 16 f (nI (gOwn G f))
  have Z : PZ 1 h h2 := (((PZ.rf.up (Or.inl rfl)).up (by omega)).up (by omega)).up (by omega)
  have Z0 : PZ 1 (th_up h 1 9 (nI (G 0 + 1))) h2 := ((PZ.rf.up (by omega)).up (by omega)).up (by omega)
  have rq : RQ 1 h2 G' := by
    refine RQ.way (f := f) q1 W hf ht0 Z0 (fun c x y => ?_) (fun j hj => ?_) (fun g z => ⟨?_, ?_, ?_⟩) ?_ (fun _ => ⟨?_, ?_⟩)
    · show (th_up (th_up (th_up (th_up h 1 9 (nI (G 0 + 1))) 14 f (nI 1)) 15 f (nI r)) 16 f (nI (gOwn G f))).1 c = _
      rw [up_cell (by omega), up_cell (by omega), up_cell (by omega)]
    · show (th_up (th_up (th_up (th_up h 1 9 (nI (G 0 + 1))) 14 f (nI 1)) 15 f (nI r)) 16 f (nI (gOwn G f))).1 1 j = _
      rw [up_cell (by omega), up_cell (by omega), up_cell (by omega)]
    · show (th_up (th_up (th_up (th_up h 1 9 (nI (G 0 + 1))) 14 f (nI 1)) 15 f (nI r)) 16 f (nI (gOwn G f))).1 14 g = _
      rw [up_cell (by omega), up_cell (by omega), up_at, if_neg (fun y => z y.2)]
    · show (th_up (th_up (th_up (th_up h 1 9 (nI (G 0 + 1))) 14 f (nI 1)) 15 f (nI r)) 16 f (nI (gOwn G f))).1 15 g = _
      rw [up_cell (by omega), up_at, if_neg (fun y => z y.2), up_cell (by omega)]
    · show (th_up (th_up (th_up (th_up h 1 9 (nI (G 0 + 1))) 14 f (nI 1)) 15 f (nI r)) 16 f (nI (gOwn G f))).1 16 g = _
      rw [up_at, if_neg (fun y => z y.2), up_cell (by omega), up_cell (by omega)]
    · rw [w8]
      show (th_up (th_up (th_up (th_up h 1 9 (nI (G 0 + 1))) 14 f (nI 1)) 15 f (nI r)) 16 f (nI (gOwn G f))).1 14 f = _
      rw [up_cell (by omega), up_cell (by omega), up_same]
    · rw [w9]
      show (th_up (th_up (th_up (th_up h 1 9 (nI (G 0 + 1))) 14 f (nI 1)) 15 f (nI r)) 16 f (nI (gOwn G f))).1 15 f = _
      rw [up_cell (by omega), up_same]
    · rw [w10]
      show (th_up (th_up (th_up (th_up h 1 9 (nI (G 0 + 1))) 14 f (nI 1)) 15 f (nI r)) 16 f (nI (gOwn G f))).1 16 f = _
      rw [up_same]
  have ii : II G' := I0.way W hf (by rw [w8]; omega) (fun _ => by
    rw [w9, w10, S0.path hf]
    have : gTh G f = true ∧ (gPath G f).testBit r = true := by simpa [gOv] using ro
    exact ⟨r10, this.2, hown⟩) (by rw [w9]; omega) (by rw [w10]; omega)
  have oc : OC 1 h2 G' := R.2.2.2.1.keep (by
      show (th_up (th_up (th_up (th_up h 1 9 (nI (G 0 + 1))) 14 f (nI 1)) 15 f (nI r)) 16 f (nI (gOwn G f))).1 1 13 = _
      rw [up_cell (by omega), up_cell (by omega), up_cell (by omega), up_at, if_neg (by omega)]) (Z.1 2 (by omega) ▸ rfl) (by
      show (th_up (th_up (th_up (th_up h 1 9 (nI (G 0 + 1))) 14 f (nI 1)) 15 f (nI r)) 16 f (nI (gOwn G f))).1 17 = _
      rw [up_cell (by omega), up_cell (by omega), up_cell (by omega), up_cell (by omega)]) (fun l hl => by rw [W.adv hf hl]; exact gAdv_other (Or.inr (Or.inr (Or.inl (by omega)))) hl)
  have M0 : MF m (th_up (th_up m 2 0 (nI (G 0 + 1))) 2 (23 + 11 * f + 8) (nI 1)) (gu (gu G 0 (G 0 + 1)) (23 + 11 * f + 8) 1) := ((MF.rf R.2.1).up).up
  have M1 := M0.up (k := 23 + 11 * f + 9) (v := r)
  have M2 := M1.up (k := 23 + 11 * f + 10) (v := gOwn G f)
  have S1 : SP G (gu (gu G 0 (G 0 + 1)) (23 + 11 * f + 8) 1) := S0.tr (SP.up (Or.inr (Or.inr (Or.inr ⟨f, 8, rfl, by omega, by omega⟩))))
  have S2 : SP G (gu (gu (gu G 0 (G 0 + 1)) (23 + 11 * f + 8) 1) (23 + 11 * f + 9) r) := S1.tr (SP.up (Or.inr (Or.inr (Or.inr ⟨f, 9, rfl, by omega, by omega⟩))))
  refine ⟨h2, _, G', fun k => ?_, fun k => ?_, R.pz0 hn Z rq oc ii S'.sq (M2.mx []) (by simp) (by simp) (by simp), by rw [S'.th hf]; exact ht, w8⟩
  · have rp4 : RP (1 + 1) (th_up (th_up h 1 9 (nI (G 0 + 1))) (1 + 13) f (nI 1)) G := R.rp.off (fun c x y _ => by rw [up_cell (by omega), up_cell (by omega)]) (by rw [up_cell (by omega), up_cell (by omega)])
    have rp6 : RP (1 + 1) (th_up (th_up (th_up h 1 9 (nI (G 0 + 1))) (1 + 13) f (nI 1)) (1 + 14) f (nI r)) G := rp4.off (fun c x y _ => by rw [up_cell (by omega)]) (by rw [up_cell (by omega)])
    have ql : fX1_lowestFrom 1 (nI f) 0 (th_up (th_up h 1 9 (nI (G 0 + 1))) (1 + 13) f (nI 1)) = some (nI r, th_up (th_up h 1 9 (nI (G 0 + 1))) (1 + 13) f (nI 1)) := by
      unfold fX1_lowestFrom
      have := c_lowest (q := 1) rp4 R.iq hf 10 0 1000 (by omega) (by omega)
      rw [hr] at this
      exact this
    rw [e_st, R.1.2.2.2.2.2.2.1, nI_1, e_wr hf (by omega), show (1 : Int32) = nI 1 from rfl, ql, e_bd, e_wr hf (by omega), c_ownOf rp6 R.iq hf ht, e_bd, e_wr hf (by omega)]
  · have qn : fX4_nextLink (nI f) (-1) 1 (th_up (th_up m 2 0 (nI (G 0 + 1))) 2 (23 + 11 * f + 8) (nI 1)) = some (nI r, th_up (th_up m 2 0 (nI (G 0 + 1))) 2 (23 + 11 * f + 8) (nI 1)) := by
      unfold fX4_nextLink
      have := m_next M0.1 (S1.IQ R.iq) hf 10 0 1000 (by omega) (by omega)
      rw [nxF_sp S1 hf, hr] at this
      exact this
    rw [show (0 : Int32) = nI 0 from rfl, m_row R.2.1 (by omega), nI_1, e_wr (by omega) (by omega), e_addl, e_wr (by omega) (by omega), show (1 : Int32) = nI 1 from rfl]
    have qn2 : fX4_nextLink (nI f) (-nI 1) (nI 1) (th_up (th_up m 2 0 (nI (G 0 + 1))) 2 (23 + 11 * f + 8) (nI 1)) = some (nI r, th_up (th_up m 2 0 (nI (G 0 + 1))) 2 (23 + 11 * f + 8) (nI 1)) := qn
    rw [qn2, e_bd, e_addl, e_wr (by omega) (by omega), m_own M1.1 (S2.IQ R.iq) hf (by rw [S2.th hf]; exact ht), e_bd, e_addl, e_wr (by omega) (by omega), S2.own hf]
end
