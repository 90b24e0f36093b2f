/-! ===== route ===== -/
def frB (a b : Nat) (l : Nat) : Bool := a.testBit l && !b.testBit l
theorem fr_bits {a b : Nat} (ha : a < 1024) (hb : b < 1024) : nI a &&& (nI b ^^^ (-1)) = nI (mk (frB a b) 20) := by
  have e1 : nI a = nI (mk a.testBit 20) := by rw [mk_of (Nat.lt_trans ha (by decide))]
  have e2 : nI b = nI (mk b.testBit 20) := by rw [mk_of (Nat.lt_trans hb (by decide))]
  rw [e1, e2, not_bits]
  rfl
theorem bit_hi {a l : Nat} (ha : a < 1024) (hl : 10 ≤ l) : a.testBit l = false := Nat.testBit_lt_two_pow (Nat.lt_of_lt_of_le ha (show 2 ^ 10 ≤ 2 ^ l from Nat.pow_le_pow_right (by omega) hl))
theorem fr_lt {a b : Nat} (ha : a < 1024) : mk (frB a b) 20 < 1024 := by
  apply Nat.lt_pow_two_of_testBit (n := 10)
  intro i hi
  rw [mk_bit]
  unfold frB
  rw [bit_hi ha hi]
  simp
def gRt (G : GR) (f a : Nat) : GR := fun k => if k = 23 + 11 * f + 2 then a else if k = 23 + 11 * f + 8 then 0 else if 243 + 10 * f ≤ k ∧ k < 253 + 10 * f ∧ ((gPath G f).testBit (k - (243 + 10 * f)) && a.testBit (k - (243 + 10 * f))) = false then 1000000 else if 443 + 10 * f ≤ k ∧ k < 453 + 10 * f ∧ ((gPath G f).testBit (k - (443 + 10 * f)) && a.testBit (k - (443 + 10 * f))) = false then 1000000 else G k
section
variable {q f a : Nat} {h h2 m : th_H} {G : GR}
theorem rt_x : FLX f G (gRt G f a) := fun k hk => by
  unfold gRt
  rw [if_neg (by omega), if_neg (by omega), if_neg (by omega), if_neg (by omega)]
theorem rt_at {j : Nat} (hf : f < 20) (hj : j ≤ 10) (h2 : j ≠ 2) (h8 : j ≠ 8) : gRt G f a (23 + 11 * f + j) = G (23 + 11 * f + j) := by
  unfold gRt
  rw [if_neg (by omega), if_neg (by omega), if_neg (by omega), if_neg (by omega)]
theorem rt_path : gPath (gRt G f a) f = a := by
  unfold gPath gRt
  rw [if_pos rfl]
theorem rt_way : gWay (gRt G f a) f = 0 := by
  unfold gWay gRt
  rw [if_neg (by omega), if_pos rfl]
theorem rt_th (hf : f < 20) : gTh (gRt G f a) f = gTh G f := by
  unfold gTh
  have := rt_at (G := G) (a := a) (j := 0) hf (by omega) (by omega) (by omega)
  rw [Nat.add_zero] at this
  rw [this]
theorem rt_ah {l : Nat} (hf : f < 20) (hl : l < 10) : gAh (gRt G f a) f l = if ((gPath G f).testBit l && a.testBit l) = false then 1000000 else gAh G f l := by
  unfold gAh gRt
  rw [if_neg (by omega), if_neg (by omega), show 243 + 10 * f + l - (243 + 10 * f) = l by omega]
  by_cases z : ((gPath G f).testBit l && a.testBit l) = false
  · rw [if_pos ⟨by omega, by omega, z⟩, if_pos z]
  · rw [if_neg (fun y => z y.2.2), if_neg (by omega), if_neg z]
theorem rt_bh {l : Nat} (hf : f < 20) (hl : l < 10) : gBh (gRt G f a) f l = if ((gPath G f).testBit l && a.testBit l) = false then 1000000 else gBh G f l := by
  unfold gBh gRt
  rw [if_neg (by omega), if_neg (by omega), if_neg (by omega), show 443 + 10 * f + l - (443 + 10 * f) = l by omega]
  by_cases z : ((gPath G f).testBit l && a.testBit l) = false
  · rw [if_pos ⟨by omega, by omega, z⟩, if_pos z]
  · rw [if_neg (fun y => z y.2.2), if_neg z]
theorem rt_ov {l : Nat} (hf : f < 20) (ht : gTh G f = true) : gOv (gRt G f a) f l = a.testBit l := by unfold gOv; rw [rt_th hf, rt_path, ht]; rfl
theorem pa_ov {l : Nat} (ht : gTh G f = true) : gOv (gu G (23 + 11 * f + 2) a) f l = a.testBit l := by
  unfold gOv gTh gPath
  rw [gu_ne (by omega), gu_eq]
  unfold gTh at ht
  rw [ht]
  rfl
theorem rt_bnd (hf : f < 20) (ht : gTh G f = true) (l : Nat) : gBnd (gRt G f a) l = gBnd (gu G (23 + 11 * f + 2) a) l := by
  have X : FLX f G (gRt G f a) := rt_x
  have Y : FLX f G (gu G (23 + 11 * f + 2) a) := FLX.one (by omega)
  have h1 := X.bnd hf l
  have h2 := Y.bnd hf l
  have e : ctb (gRt G f a) f l = ctb (gu G (23 + 11 * f + 2) a) f l := by
    unfold ctb
    rw [rt_ov hf ht, pa_ov ht]
    unfold gLeast
    rw [rt_at hf (by omega) (by omega) (by omega), gu_ne (by omega)]
  omega
theorem pa_iq (I : IQ G) (hf : f < 20) (ht : gTh G f = true) (ha : 0 < a) (ha2 : a < 1024) : IQ (gu G (23 + 11 * f + 2) a) := by
  obtain ⟨a1, a2, a3, a4, a5, a6⟩ := (I.2 f hf).2 ht
  have ne : ∀ k, k ≠ 23 + 11 * f + 2 → gu G (23 + 11 * f + 2) a k = G k := fun k hk => gu_ne hk
  refine I.flow (FLX.one (by omega)) hf (by rw [ne _ (by omega)]; exact (I.2 f hf).1) (fun _ => ?_)
  unfold gPath gWt gLeast gWant
  rw [gu_eq, ne _ (by omega), ne _ (by omega), ne _ (by omega)]
  exact ⟨ha, ha2, a3, a4, a5, a6⟩
theorem rt_ii (I : II G) (hf : f < 20) (ht : gTh G f = true) (ha : 0 < a) (ha2 : a < 1024) (B' : IB (gu G (23 + 11 * f + 2) a)) : II (gRt G f a) := by
  obtain ⟨a1, a2, a3, a4, a5, a6⟩ := (I.1.1.2 f hf).2 ht
  have X : FLX f G (gRt G f a) := rt_x
  have e : ∀ j, j ≤ 10 → j ≠ 2 → j ≠ 8 → gRt G f a (23 + 11 * f + j) = G (23 + 11 * f + j) := fun j h1 h2 h3 => rt_at hf h1 h2 h3
  have e0 : gRt G f a (23 + 11 * f) = G (23 + 11 * f) := e 0 (by omega) (by omega) (by omega)
  have e1 : gName (gRt G f a) f = gName G f := e 1 (by omega) (by omega) (by omega)
  have e3 : gWt (gRt G f a) f = gWt G f := e 3 (by omega) (by omega) (by omega)
  have e4 : gLeast (gRt G f a) f = gLeast G f := e 4 (by omega) (by omega) (by omega)
  have e5 : gWant (gRt G f a) f = gWant G f := e 5 (by omega) (by omega) (by omega)
  have e6 : gHeld (gRt G f a) f = gHeld G f := e 6 (by omega) (by omega) (by omega)
  have e7 : gTold (gRt G f a) f = gTold G f := e 7 (by omega) (by omega) (by omega)
  obtain ⟨j1, j2, j3, j4, j5, j6⟩ := I.2.2 f hf ht
  refine I.flow X hf (by rw [e0]; exact (I.1.1.2 f hf).1) (fun l hl => ?_) (fun k hk => ?_) (fun _ => ?_) (fun _ g hg z tg => ?_) (fun _ => ?_) (fun _ l hl => ?_)
  · have := B' l hl
    rw [rt_bnd hf ht, X.cap hl]
    have ec : gCap (gu G (23 + 11 * f + 2) a) l = gCap G l := gu_ne (by omega)
    omega
  · have := I.1.2.2.2.2 k (by omega) (by omega)
    unfold gRt
    repeat' split
    all_goals omega
  · rw [rt_path, e3, e4, e5]
    exact ⟨ha, ha2, a3, a4, a5, a6⟩
  · rw [e1]
    intro en
    exact z (I.2.1 g f hg hf tg ht en)
  · rw [e1, e6, e7, rt_way, rt_path]
    refine ⟨j1, j2, j3, by omega, fun z => absurd rfl z, fun l hl hb => ?_⟩
    rw [rt_ah hf hl, rt_bh hf hl, if_pos (by rw [hb, Bool.and_false]), if_pos (by rw [hb, Bool.and_false])]
    exact ⟨rfl, rfl⟩
  · obtain ⟨k1, k2⟩ := I.1.2.2.1 f hf ht l hl
    rw [rt_ah hf hl, rt_bh hf hl]
    constructor
    · split <;> omega
    · split <;> omega
theorem c_rt_c11 {h0 : th_H} (hf : f < 20) (ha : a < 1024) : ∀ d l fu h, l + d = 10 → d < fu → h0.1 (q + 1 + 4) f = nI a → FF q h0 h (fun k => decide (f * 10 ≤ k) && decide (k < f * 10 + l) && !a.testBit (k - f * 10)) (fun _ => false) (fun j => decide (j < l) && !a.testBit j) → ∃ h1, fX1_reroute_c11 q fu (nI f) (nI l) h = some ((), th_up h1 (q + 13) f 0) ∧ FF q h0 h1 (fun k => decide (f * 10 ≤ k) && decide (k < f * 10 + 10) && !a.testBit (k - f * 10)) (fun _ => false) (fun j => decide (j < 10) && !a.testBit j) := by
  intro d
  induction d with
  | zero =>
    intro l fu h hl hfu h4 F
    obtain ⟨fu, rfl⟩ : ∃ z, fu = z + 1 := ⟨fu - 1, by omega⟩
    obtain rfl : l = 10 := by omega
    rw [fX1_reroute_c11, if_neg (by decide), e_wr hf (by omega)]
    exact ⟨h, rfl, F⟩
  | succ d ih =>
    intro l fu h hl hfu h4 F
    obtain ⟨fu, rfl⟩ : ∃ z, fu = z + 1 := ⟨fu - 1, by omega⟩
    have hl2 : l < 10 := by omega
    have P3 : h.1 (q + 1 + 4) f = nI a := by rw [F.2.2.2.2.2.1 _ (by omega) (by omega) (by omega) (by omega) (by omega)]; exact h4
    have go : fX0_goesOver (q + 1) (nI f) (nI l) h = some (if a.testBit l = true then 1 else 0, h) := by
      unfold fX0_goesOver
      rw [e_rd hf (by omega), P3, e_bit (by omega) (by omega), ic e_c0]
      by_cases c : a.testBit l = true
      · rw [if_neg (not_not_intro c), if_pos c]
      · rw [if_pos c, if_neg c]
    rw [fX1_reroute_c11, if_pos (show nI l < (10 : Int32) from nI_lt (a := l) (b := 10) hl2 (by omega)), go, e_bd, ic e_c0, nI_1]
    by_cases c : a.testBit l = true
    · rw [if_neg (not_not_intro c)]
      refine ih (l + 1) fu h (by omega) (by omega) h4 (F.cong (fun k => ?_) (fun _ => rfl) (fun j => ?_))
      · by_cases z : k = f * 10 + l
        · rw [z, show f * 10 + l - f * 10 = l by omega, c]
          simp
        · have e : decide (k < f * 10 + (l + 1)) = decide (k < f * 10 + l) := by rw [Bool.eq_iff_iff]; simp; omega
          rw [e]
      · by_cases z : j = l
        · rw [z, c]; simp
        · have e : decide (j < l + 1) = decide (j < l) := by rw [Bool.eq_iff_iff]; simp; omega
          rw [e]
    · have c2 : a.testBit l = false := by simpa using c
      rw [if_pos c]
      obtain ⟨h2, q2, F2⟩ := c_forgetAt F hf hl2
      rw [q2, e_bd]
      refine ih (l + 1) fu h2 (by omega) (by omega) h4 (F2.cong (fun k => ?_) (fun _ => rfl) (fun j => ?_))
      · by_cases z : k = f * 10 + l
        · rw [z, show f * 10 + l - f * 10 = l by omega, c2]
          simp
        · have e : decide (k < f * 10 + (l + 1)) = decide (k < f * 10 + l) := by rw [Bool.eq_iff_iff]; simp; omega
          have e2 : (k == f * 10 + l) = false := by simpa using z
          rw [e, e2, Bool.or_false]
      · by_cases z : j = l
        · rw [z, c2]; simp
        · have e : decide (j < l + 1) = decide (j < l) := by rw [Bool.eq_iff_iff]; simp; omega
          have e2 : (j == l) = false := by simpa using z
          rw [e, e2, Bool.or_false]
theorem rt_rp {p : Nat} (R : RP p h G) (hf : f < 20) (ht : gTh G f = true) (ha : a < 1024) : ∃ h2, fX0_setPath p (nI f) (nI a) h = some ((), h2) ∧ RP p h2 (gRt G f a) ∧ h2.1 (p + 4) f = nI a ∧ h2.1 p 8 = h.1 p 8 + 1 ∧ (∀ j, j ≠ 8 → h2.1 p j = h.1 p j) ∧ (∀ c, c ≠ p → c ≠ p + 2 → c ≠ p + 4 → h2.1 c = h.1 c) ∧ h2.2 = h.2 := by
  have X : FLX f G (gRt G f a) := rt_x
  obtain ⟨h1, q1, a2, a4f, a4, a8, aj, ac, al⟩ := c_setPath (p := p) (h := h) (C := fun l g => gOv G g l) (fun l hl => R.2.1 l hl) hf (m := a) ha
  have e3 : gWt (gRt G f a) f = gWt G f := rt_at hf (by omega) (by omega) (by omega)
  have e4 : gLeast (gRt G f a) f = gLeast G f := rt_at hf (by omega) (by omega) (by omega)
  have e5 : gWant (gRt G f a) f = gWant G f := rt_at hf (by omega) (by omega) (by omega)
  refine ⟨h1, q1, R.flow X hf ?_ (fun l hl => ?_) ?_ a4 (fun _ => ?_) (fun g z => ⟨?_, ?_, ?_⟩) ?_, a4f, a8, aj, ac, al⟩
  · rw [ac _ (by omega) (by omega) (by omega)]
  · rw [a2 l hl]
    refine congrArg nI (mk_cong (fun g _ => ?_))
    by_cases z : g = f
    · rw [if_pos z, if_pos z, rt_ov hf ht]
    · rw [if_neg z, if_neg z]
  · rw [a4f, rt_th hf, ht, if_pos rfl, rt_path]
  · rw [e3, e4, e5, ac _ (by omega) (by omega) (by omega), ac _ (by omega) (by omega) (by omega), ac _ (by omega) (by omega) (by omega)]
    exact R.2.2.2.1 f hf ht
  · rw [ac _ (by omega) (by omega) (by omega)]
  · rw [ac _ (by omega) (by omega) (by omega)]
  · rw [ac _ (by omega) (by omega) (by omega)]
  · rw [aj 7 (by omega), R.2.2.2.2]
    refine congrArg nI (mk_cong (fun g hg => ?_))
    by_cases z : g = f
    · rw [z, rt_th hf]
    · rw [X.th hf hg z]
theorem c_reroute (R : RQ q h G) (I : II G) (hf : f < 20) (ht : gTh G f = true) (ha : a < 1024) : ∃ h2, fX1_reroute q (nI f) (nI a) h = some ((), h2) ∧ RQ q h2 (gRt G f a) ∧ h2.1 (q + 1) 8 = h.1 (q + 1) 8 + 1 ∧ h2.1 q 13 = h.1 q 13 ∧ (∀ c, (c < q ∨ q + 17 < c) → h2.1 c = h.1 c) ∧ h2.2 = h.2 := by
  have X : FLX f G (gRt G f a) := rt_x
  obtain ⟨h1, q1, rp1, a4f, a8, aj, ac, al⟩ := rt_rp (p := q + 1) R.1 hf ht ha
  obtain ⟨h3, q3, F⟩ := c_rt_c11 (q := q) (h0 := h1) hf ha 10 0 1000 h1 (by omega) (by omega) a4f (FF.rf.cong (fun k => by simp; omega) (fun _ => rfl) (fun j => by simp))
  obtain ⟨f9, f10, f11, f13, f16, fo, fl⟩ := F
  have q3' : fX1_reroute_c11 q 1000 (nI f) 0 h1 = some ((), th_up h3 (q + 13) f 0) := q3
  unfold fX1_reroute
  rw [q1, e_bd, q3']
  have uo : ∀ c, c ≠ q + 9 → c ≠ q + 10 → c ≠ q + 11 → c ≠ q + 13 → c ≠ q + 16 → (th_up h3 (q + 13) f 0).1 c = h1.1 c := fun c c1 c2 c3 c4 c5 => by rw [up_cell c4, fo c c1 c2 c3 c4 c5]
  have e6 : gHeld (gRt G f a) f = gHeld G f := rt_at hf (by omega) (by omega) (by omega)
  have e7 : gTold (gRt G f a) f = gTold G f := rt_at hf (by omega) (by omega) (by omega)
  have e1 : gName (gRt G f a) f = gName G f := rt_at hf (by omega) (by omega) (by omega)
  have hk : ∀ c, c ≠ q + 1 → c ≠ q + 3 → c ≠ q + 5 → h1.1 c = h.1 c := fun c c1 c2 c3 => ac c c1 (by omega) (by omega)
  have f11' : ∀ g, h3.1 (q + 11) g = h1.1 (q + 11) g := fun g => by rw [f11 g, if_neg (by simp)]
  have f13' : ∀ g, h3.1 (q + 13) g = h1.1 (q + 13) g := fun g => by rw [f13 g, if_neg (by simp)]
  obtain ⟨d1, d2, d3, d4⟩ := R.2.2.2.1 f hf ht
  refine ⟨_, rfl, R.flow X hf (rp1.off (fun c x y _ => uo c (by omega) (by omega) (by omega) (by omega) (by omega)) (by rw [uo (q + 1) (by omega) (by omega) (by omega) (by omega) (by omega)])) (fun g z => ?_) (fun _ => ?_) ?_ (fun g z => ⟨?_, ?_, ?_, ?_⟩) (fun k hk2 => ⟨?_, ?_⟩) (fun _ => ⟨?_, ?_, fun z => absurd rt_way z, fun l hl => ⟨?_, ?_⟩⟩) (fun z => by rw [rt_th hf, ht] at z; cases z) ?_ (fun j x y => ?_), ?_, ?_, fun c hc => ?_, fl.trans al⟩
  · rw [uo _ (by omega) (by omega) (by omega) (by omega) (by omega), hk _ (by omega) (by omega) (by omega)]
  · rw [e1, uo _ (by omega) (by omega) (by omega) (by omega) (by omega), hk _ (by omega) (by omega) (by omega)]
    exact R.2.1 f hf ht
  · rw [uo _ (by omega) (by omega) (by omega) (by omega) (by omega), hk _ (by omega) (by omega) (by omega)]
  · rw [up_cell (by omega), f11', hk _ (by omega) (by omega) (by omega)]
  · rw [up_at, if_neg (fun y => z y.2), f13', hk _ (by omega) (by omega) (by omega)]
  · rw [uo _ (by omega) (by omega) (by omega) (by omega) (by omega), hk _ (by omega) (by omega) (by omega)]
  · rw [uo _ (by omega) (by omega) (by omega) (by omega) (by omega), hk _ (by omega) (by omega) (by omega)]
  · rw [up_cell (by omega), f9 k, if_neg (by simp; omega), hk _ (by omega) (by omega) (by omega)]
  · rw [up_cell (by omega), f10 k, if_neg (by simp; omega), hk _ (by omega) (by omega) (by omega)]
  · rw [e7, up_cell (by omega), f11', hk _ (by omega) (by omega) (by omega)]
    exact d1
  · rw [rt_way, up_same]; rfl
  · have k6 := (I.2.2 f hf ht).2.2.2.2.2 l hl
    have e : (decide (f * 10 ≤ f * 10 + l) && decide (f * 10 + l < f * 10 + 10) && !a.testBit (f * 10 + l - f * 10)) = !a.testBit l := by
      rw [show f * 10 + l - f * 10 = l by omega, decide_eq_true (show f * 10 ≤ f * 10 + l by omega), decide_eq_true (show f * 10 + l < f * 10 + 10 by omega)]
      rfl
    rw [up_cell (by omega), f9, ic (show ((fun k => decide (f * 10 ≤ k) && decide (k < f * 10 + 10) && !a.testBit (k - f * 10)) (f * 10 + l) = true) = ((!a.testBit l) = true) from congrArg (· = true) e), hk _ (by omega) (by omega) (by omega), rt_ah hf hl, (d4 l hl).1]
    cases z : a.testBit l with
    | false => rw [if_pos (by simp), if_pos (by simp)]
    | true =>
      rw [if_neg (by simp)]
      cases y : (gPath G f).testBit l with
      | false => rw [if_pos (by simp), (k6 y).1]
      | true => rw [if_neg (by simp)]
  · have k6 := (I.2.2 f hf ht).2.2.2.2.2 l hl
    have e : (decide (f * 10 ≤ f * 10 + l) && decide (f * 10 + l < f * 10 + 10) && !a.testBit (f * 10 + l - f * 10)) = !a.testBit l := by
      rw [show f * 10 + l - f * 10 = l by omega, decide_eq_true (show f * 10 ≤ f * 10 + l by omega), decide_eq_true (show f * 10 + l < f * 10 + 10 by omega)]
      rfl
    rw [up_cell (by omega), f10, ic (show ((fun k => decide (f * 10 ≤ k) && decide (k < f * 10 + 10) && !a.testBit (k - f * 10)) (f * 10 + l) = true) = ((!a.testBit l) = true) from congrArg (· = true) e), hk _ (by omega) (by omega) (by omega), rt_bh hf hl, (d4 l hl).2]
    cases z : a.testBit l with
    | false => rw [if_pos (by simp), if_pos (by simp)]
    | true =>
      rw [if_neg (by simp)]
      cases y : (gPath G f).testBit l with
      | false => rw [if_pos (by simp), (k6 y).2]
      | true => rw [if_neg (by simp)]
  · rw [uo q (by omega) (by omega) (by omega) (by omega) (by omega), hk _ (by omega) (by omega) (by omega), R.2.2.2.2.2.1]
    refine congrArg nI (mk_cong (fun g hg => ?_))
    by_cases z : g = f
    · rw [z, rt_th hf, e6]
    · rw [X.th hf hg z, X.held hf hg z]
  · rw [uo q (by omega) (by omega) (by omega) (by omega) (by omega), hk _ (by omega) (by omega) (by omega)]
  · rw [uo (q + 1) (by omega) (by omega) (by omega) (by omega) (by omega), a8]
  · rw [uo q (by omega) (by omega) (by omega) (by omega) (by omega), hk _ (by omega) (by omega) (by omega)]
  · rw [uo c (by omega) (by omega) (by omega) (by omega) (by omega), hk c (by omega) (by omega) (by omega)]
end
