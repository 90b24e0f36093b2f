/-! ===== come ===== -/
def gLay (G : GR) (f nm a b c d : Nat) : GR := fun k => if k = 23 + 11 * f then 1 else if k = 23 + 11 * f + 1 then nm else if k = 23 + 11 * f + 2 then a else if k = 23 + 11 * f + 3 then b else if k = 23 + 11 * f + 4 then c else if k = 23 + 11 * f + 5 then d else if 23 + 11 * f + 6 ≤ k ∧ k ≤ 23 + 11 * f + 10 then 0 else if (243 + 10 * f ≤ k ∧ k < 253 + 10 * f) ∨ (443 + 10 * f ≤ k ∧ k < 453 + 10 * f) then 1000000 else G k
section
variable {p q f nm a b c d : Nat} {h h2 m : th_H} {G G' : GR}
theorem lay_x : FLX f G (gLay G f nm a b c d) := fun k hk => by
  unfold gLay
  rw [if_neg (by omega), if_neg (by omega), if_neg (by omega), if_neg (by omega), if_neg (by omega), if_neg (by omega), if_neg (by omega), if_neg (by omega)]
theorem lay_th : gTh (gLay G f nm a b c d) f = true := by
  unfold gTh gLay
  rw [if_pos rfl]
  rfl
theorem lay_name : gName (gLay G f nm a b c d) f = nm := by
  unfold gName gLay
  rw [if_neg (by omega), if_pos rfl]
theorem lay_path : gPath (gLay G f nm a b c d) f = a := by
  unfold gPath gLay
  rw [if_neg (by omega), if_neg (by omega), if_pos rfl]
theorem lay_wt : gWt (gLay G f nm a b c d) f = b := by
  unfold gWt gLay
  rw [if_neg (by omega), if_neg (by omega), if_neg (by omega), if_pos rfl]
theorem lay_least : gLeast (gLay G f nm a b c d) f = c := by
  unfold gLeast gLay
  rw [if_neg (by omega), if_neg (by omega), if_neg (by omega), if_neg (by omega), if_pos rfl]
theorem lay_want : gWant (gLay G f nm a b c d) f = d := by
  unfold gWant gLay
  rw [if_neg (by omega), if_neg (by omega), if_neg (by omega), if_neg (by omega), if_neg (by omega), if_pos rfl]
theorem lay_0 {j : Nat} (h1 : 6 ≤ j) (h2 : j ≤ 10) : gLay G f nm a b c d (23 + 11 * f + j) = 0 := by
  unfold gLay
  rw [if_neg (by omega), if_neg (by omega), if_neg (by omega), if_neg (by omega), if_neg (by omega), if_neg (by omega), if_pos (by omega)]
theorem lay_k {k : Nat} (hf : f < 20) (hk : (243 + 10 * f ≤ k ∧ k < 253 + 10 * f) ∨ (443 + 10 * f ≤ k ∧ k < 453 + 10 * f)) : gLay G f nm a b c d k = 1000000 := by
  unfold gLay
  rw [if_neg (by omega), if_neg (by omega), if_neg (by omega), if_neg (by omega), if_neg (by omega), if_neg (by omega), if_neg (by omega), if_pos hk]
theorem lay_ov {l : Nat} : gOv (gLay G f nm a b c d) f l = a.testBit l := by unfold gOv; rw [lay_th, lay_path]; rfl
/-- a flow that may come -/
def OKF (G : GR) (a b c d : Nat) : Prop := 0 < a ∧ a < 1024 ∧ 0 < b ∧ b ≤ 9 ∧ c ≤ d ∧ d ≤ 1000000 ∧ ∀ l, l < 10 → a.testBit l = true → gBnd G l + c ≤ gCap G l
theorem lay_iq (I : IQ G) (hf : f < 20) (K : OKF G a b c d) : IQ (gLay G f nm a b c d) := by
  refine I.flow lay_x hf ?_ (fun _ => ?_)
  · unfold gLay; rw [if_pos rfl]; omega
  · rw [lay_path, lay_wt, lay_least, lay_want]
    exact ⟨K.1, K.2.1, K.2.2.1, K.2.2.2.1, K.2.2.2.2.1, K.2.2.2.2.2.1⟩
theorem lay_ib (I : IQ G) (B : IB G) (hf : f < 20) (hn : gTh G f = false) (K : OKF G a b c d) : IB (gLay G f nm a b c d) := by
  intro l hl
  have X : FLX f G (gLay G f nm a b c d) := lay_x
  have hb := X.bnd hf l
  have hB := B l hl
  unfold ctb at hb
  rw [lay_ov, lay_least, if_neg (show ¬ gOv G f l = true by unfold gOv; rw [hn]; simp)] at hb
  rw [X.cap hl]
  by_cases z : a.testBit l = true
  · rw [if_pos z] at hb
    have := K.2.2.2.2.2.2 l hl z
    omega
  · rw [if_neg z] at hb
    omega
theorem lay_ii (I : II G) (hf : f < 20) (hn : gTh G f = false) (K : OKF G a b c d) (hnm : nm < 1000000) (hno : ∀ g, g < 20 → gTh G g = true → gName G g ≠ nm) : II (gLay G f nm a b c d) := by
  have IQ' := lay_iq (nm := nm) I.1.1 hf K
  refine I.flow lay_x hf (IQ'.2 f hf).1 (lay_ib I.1.1 I.1.2.1 hf hn K) (fun k hk => ?_) (IQ'.2 f hf).2 (fun _ g hg z tg => ?_) (fun _ => ?_) (fun _ l hl => ?_)
  · obtain ⟨k1, k2, k3, k4, k5, k6, -⟩ := K
    unfold gLay
    repeat' split
    all_goals omega
  · rw [lay_name]; exact hno g hg tg
  · have w6 : gHeld (gLay G f nm a b c d) f = 0 := lay_0 (by omega) (by omega)
    have w7 : gTold (gLay G f nm a b c d) f = 0 := lay_0 (by omega) (by omega)
    have w8 : gWay (gLay G f nm a b c d) f = 0 := lay_0 (by omega) (by omega)
    rw [lay_name, w6, w7, w8]
    refine ⟨hnm, by omega, by omega, by omega, fun z => absurd rfl z, fun l hl _ => ?_⟩
    unfold gAh gBh
    rw [lay_k hf (by omega), lay_k hf (by omega)]
    exact ⟨rfl, rfl⟩
  · unfold gAh gBh
    rw [lay_k hf (by omega), lay_k hf (by omega)]
    exact ⟨Nat.le_refl _, Nat.le_refl _⟩
theorem m_lay_c97 {h0 : th_H} {G0 : GR} (hf : f < 20) : ∀ e l fu h, l + e = 10 → e < fu → MF h0 h (fun k => if (243 + 10 * f ≤ k ∧ k < 243 + 10 * f + l) ∨ (443 + 10 * f ≤ k ∧ k < 443 + 10 * f + l) then 1000000 else G0 k) → ∃ h2, fX4_lay_c97 fu (nI f) (nI l) h = some ((), h2) ∧ MF h0 h2 (fun k => if (243 + 10 * f ≤ k ∧ k < 243 + 10 * f + 10) ∨ (443 + 10 * f ≤ k ∧ k < 443 + 10 * f + 10) then 1000000 else G0 k) := by
  intro e
  induction e with
  | zero =>
    intro l fu h hl hfu M
    obtain ⟨fu, rfl⟩ : ∃ z, fu = z + 1 := ⟨fu - 1, by omega⟩
    obtain rfl : l = 10 := by omega
    rw [fX4_lay_c97, if_neg (by decide)]
    exact ⟨_, rfl, M⟩
  | succ e ih =>
    intro l fu h hl hfu M
    obtain ⟨fu, rfl⟩ : ∃ z, fu = z + 1 := ⟨fu - 1, by omega⟩
    rw [fX4_lay_c97, if_pos (show nI l < (10 : Int32) from nI_lt (a := l) (b := 10) (by omega) (by omega))]
    obtain ⟨h3, q3, M3⟩ := m_knowsNothing M hf (show l < 10 by omega)
    rw [q3, e_bd, nI_1]
    refine ih (l + 1) fu h3 (by omega) (by omega) (M3.cong (fun k hk => ?_))
    unfold gu
    dsimp only
    by_cases c1 : k = 443 + 10 * f + l
    · rw [if_pos c1, if_pos (by omega)]
    · rw [if_neg c1]
      by_cases c2 : k = 243 + 10 * f + l
      · rw [if_pos c2, if_pos (by omega)]
      · rw [if_neg c2]
        by_cases c3 : (243 + 10 * f ≤ k ∧ k < 243 + 10 * f + l) ∨ (443 + 10 * f ≤ k ∧ k < 443 + 10 * f + l)
        · rw [if_pos c3, if_pos (by omega)]
        · rw [if_neg c3, if_neg (by omega)]
theorem m_lay_c9 {h0 : th_H} (hf : f < 20) (x1 x2 x3 x4 x5 x6 : Int32) : ∀ e j fu h, j + e = 11 → e < fu → MF h0 h (fun k => if 23 + 11 * f ≤ k ∧ k < 23 + 11 * f + j then 0 else G k) → ∃ h2, fX4_lay_c9 fu x1 x2 x3 x4 x5 x6 (nI (23 + 11 * f)) (nI j) h = (th_wr h2 2 643 (nI (23 + 11 * f)) 1 fun h3 => th_wr h3 2 643 (nI (23 + 11 * f) + 1) x2 fun h4 => th_wr h4 2 643 (nI (23 + 11 * f) + 2) x3 fun h5 => th_wr h5 2 643 (nI (23 + 11 * f) + 3) x4 fun h6 => th_wr h6 2 643 (nI (23 + 11 * f) + 4) x5 fun h7 => th_wr h7 2 643 (nI (23 + 11 * f) + 5) x6 fun h8 => fX4_lay_c97 1000 x1 0 h8) ∧ MF h0 h2 (fun k => if 23 + 11 * f ≤ k ∧ k < 23 + 11 * f + 11 then 0 else G k) := by
  intro e
  induction e with
  | zero =>
    intro j fu h hj hfu M
    obtain ⟨fu, rfl⟩ : ∃ z, fu = z + 1 := ⟨fu - 1, by omega⟩
    obtain rfl : j = 11 := by omega
    rw [fX4_lay_c9, if_neg (by decide)]
    exact ⟨h, rfl, M⟩
  | succ e ih =>
    intro j fu h hj hfu M
    obtain ⟨fu, rfl⟩ : ∃ z, fu = z + 1 := ⟨fu - 1, by omega⟩
    rw [fX4_lay_c9, if_pos (show nI j < (11 : Int32) from nI_lt (a := j) (b := 11) (by omega) (by omega)), nI_add, e_wr (by omega) (by omega), nI_1]
    refine ih (j + 1) fu _ (by omega) (by omega) ((M.up (k := 23 + 11 * f + j) (v := 0)).cong (fun k hk => ?_))
    unfold gu
    dsimp only
    by_cases c1 : k = 23 + 11 * f + j
    · rw [if_pos c1, if_pos (by omega)]
    · rw [if_neg c1]
      by_cases c2 : 23 + 11 * f ≤ k ∧ k < 23 + 11 * f + j
      · rw [if_pos c2, if_pos (by omega)]
      · rw [if_neg c2, if_neg (by omega)]
theorem m_lay (R : RM m G) (hf : f < 20) (nm a b c d : Nat) : ∃ m2, fX4_lay (nI f) (nI nm) (nI a) (nI b) (nI c) (nI d) m = some ((), m2) ∧ MF m m2 (gLay G f nm a b c d) := by
  unfold fX4_lay
  rw [m_at, e_bd]
  obtain ⟨m1, q1, M1⟩ := m_lay_c9 (G := G) hf (nI f) (nI nm) (nI a) (nI b) (nI c) (nI d) 11 0 1000 m (by omega) (by omega) ((MF.rf R).cong (fun k _ => if_neg (by omega)))
  have q1' : fX4_lay_c9 1000 (nI f) (nI nm) (nI a) (nI b) (nI c) (nI d) (nI (23 + 11 * f)) 0 m = _ := q1
  have M7 := (((((M1.up (k := 23 + 11 * f) (v := 1)).up (k := 23 + 11 * f + 1) (v := nm)).up (k := 23 + 11 * f + 2) (v := a)).up (k := 23 + 11 * f + 3) (v := b)).up (k := 23 + 11 * f + 4) (v := c)).up (k := 23 + 11 * f + 5) (v := d)
  obtain ⟨m2, q2, M2⟩ := m_lay_c97 hf 10 0 1000 _ (by omega) (by omega) (M7.cong (fun k _ => if_neg (by omega)))
  rw [q1', e_addl, e_addl, e_addl, e_addl, e_addl, e_wr (by omega) (by omega), e_wr (by omega) (by omega), e_wr (by omega) (by omega), e_wr (by omega) (by omega), e_wr (by omega) (by omega), e_wr (by omega) (by omega)]
  refine ⟨m2, q2, M2.cong (fun k _ => ?_)⟩
  unfold gLay gu
  dsimp only
  by_cases k0 : k = 23 + 11 * f
  · rw [if_pos k0, if_neg (by omega), if_neg (by omega), if_neg (by omega), if_neg (by omega), if_neg (by omega), if_neg (by omega), if_pos k0]
  by_cases k1 : k = 23 + 11 * f + 1
  · rw [if_neg k0, if_pos k1, if_neg (by omega), if_neg (by omega), if_neg (by omega), if_neg (by omega), if_neg (by omega), if_pos k1]
  by_cases k2 : k = 23 + 11 * f + 2
  · rw [if_neg k0, if_neg k1, if_pos k2, if_neg (by omega), if_neg (by omega), if_neg (by omega), if_neg (by omega), if_pos k2]
  by_cases k3 : k = 23 + 11 * f + 3
  · rw [if_neg k0, if_neg k1, if_neg k2, if_pos k3, if_neg (by omega), if_neg (by omega), if_neg (by omega), if_pos k3]
  by_cases k4 : k = 23 + 11 * f + 4
  · rw [if_neg k0, if_neg k1, if_neg k2, if_neg k3, if_pos k4, if_neg (by omega), if_neg (by omega), if_pos k4]
  by_cases k5 : k = 23 + 11 * f + 5
  · rw [if_neg k0, if_neg k1, if_neg k2, if_neg k3, if_neg k4, if_pos k5, if_neg (by omega), if_pos k5]
  rw [if_neg k0, if_neg k1, if_neg k2, if_neg k3, if_neg k4, if_neg k5, if_neg k5, if_neg k4, if_neg k3, if_neg k2, if_neg k1, if_neg k0]
  by_cases k6 : 23 + 11 * f + 6 ≤ k ∧ k ≤ 23 + 11 * f + 10
  · rw [if_pos k6, if_neg (by omega), if_pos (by omega)]
  · rw [if_neg k6]
    by_cases k7 : (243 + 10 * f ≤ k ∧ k < 253 + 10 * f) ∨ (443 + 10 * f ≤ k ∧ k < 453 + 10 * f)
    · rw [if_pos k7, if_pos (by omega)]
    · rw [if_neg k7, if_neg (by omega), if_neg (by omega)]
theorem free_th (h : gFree G < 20) : gTh G (gFree G) = false := by
  have := fa_first_yes (fun f => !gTh G f) 20 h
  have h2 : (!gTh G (gFree G)) = true := this
  simpa using h2
theorem c_add (R : RP p h G) (hF : gFree G < 20) (x : Int32) (ha : a < 1024) : ∃ h2, fX0_add p x (nI a) (nI b) (nI c) (nI d) h = some (nI (gFree G), h2) ∧ RP p h2 (gLay G (gFree G) nm a b c d) ∧ h2.1 (p + 3) (gFree G) = x ∧ (∀ g, g ≠ gFree G → h2.1 (p + 3) g = h.1 (p + 3) g) ∧ h2.1 p 8 = h.1 p 8 + 1 ∧ (∀ k, (k < p ∨ p + 7 < k) → h2.1 k = h.1 k) ∧ h2.2 = h.2 := by
  have hf := hF
  have X : FLX (gFree G) G (gLay G (gFree G) nm a b c d) := lay_x
  unfold fX0_add
  rw [c_freeNumber R, e_bd, if_pos hF, if_neg (by rw [e_ne1 (by omega)]; exact id), e_st, e_wr hf (by omega), e_wr hf (by omega), e_wr hf (by omega), e_wr hf (by omega), R.2.2.2.2, on_bit hf]
  generalize hfr : gFree G = f at *
  obtain ⟨h3, q3, a2, a4f, a4, a8, aj, ac, al⟩ := c_setPath (p := p) (h := th_up (th_up (th_up (th_up (th_up h p 7 (nI (mk (fun g => gTh G g || g == f) 20))) (p + 3) f x) (p + 5) f (nI b)) (p + 6) f (nI c)) (p + 7) f (nI d)) (C := fun l g => gOv G g l) (fun l hl => by
    rw [up_cell (by omega), up_cell (by omega), up_cell (by omega), up_cell (by omega), up_cell (by omega)]
    exact R.2.1 l hl) hf (m := a) ha
  rw [q3, e_bd]
  refine ⟨h3, rfl, R.flow X hf ?_ (fun l hl => ?_) ?_ (fun g z => ?_) (fun _ => ⟨?_, ?_, ?_⟩) (fun g z => ⟨?_, ?_, ?_⟩) ?_, ?_, fun g z => ?_, ?_, fun k hk => ?_, al⟩
  · rw [ac _ (by omega) (by omega) (by omega), up_cell (by omega), up_cell (by omega), up_cell (by omega), up_cell (by omega), up_cell (by omega)]
  · rw [a2 l hl]
    refine congrArg nI (mk_cong (fun g _ => ?_))
    by_cases z : g = f
    · rw [if_pos z, if_pos z, lay_ov]
    · rw [if_neg z, if_neg z]
  · rw [a4f, lay_th, if_pos rfl, lay_path]
  · rw [a4 g z, up_cell (by omega), up_cell (by omega), up_cell (by omega), up_cell (by omega), up_cell (by omega)]
  · rw [lay_wt, ac _ (by omega) (by omega) (by omega), up_cell (by omega), up_cell (by omega), up_same]
  · rw [lay_least, ac _ (by omega) (by omega) (by omega), up_cell (by omega), up_same]
  · rw [lay_want, ac _ (by omega) (by omega) (by omega), up_same]
  · rw [ac _ (by omega) (by omega) (by omega), up_cell (by omega), up_cell (by omega), up_at, if_neg (fun y => z y.2), up_cell (by omega), up_cell (by omega)]
  · rw [ac _ (by omega) (by omega) (by omega), up_cell (by omega), up_at, if_neg (fun y => z y.2), up_cell (by omega), up_cell (by omega), up_cell (by omega)]
  · rw [ac _ (by omega) (by omega) (by omega), up_at, if_neg (fun y => z y.2), up_cell (by omega), up_cell (by omega), up_cell (by omega), up_cell (by omega)]
  · rw [aj 7 (by omega), up_cell (by omega), up_cell (by omega), up_cell (by omega), up_cell (by omega), up_same]
    refine congrArg nI (mk_cong (fun g hg => ?_))
    by_cases z : g = f
    · rw [z, lay_th]; simp
    · rw [X.th hf hg z]
      have z2 : (g == f) = false := by simpa using z
      rw [z2, Bool.or_false]
  · rw [ac _ (by omega) (by omega) (by omega), up_cell (by omega), up_cell (by omega), up_cell (by omega), up_same]
  · rw [ac _ (by omega) (by omega) (by omega), up_cell (by omega), up_cell (by omega), up_cell (by omega), up_at, if_neg (fun y => z y.2), up_cell (by omega)]
  · rw [a8, up_cell (by omega), up_cell (by omega), up_cell (by omega), up_cell (by omega), up_at, if_neg (by omega)]
  · rw [ac k (by omega) (by omega) (by omega), up_cell (by omega), up_cell (by omega), up_cell (by omega), up_cell (by omega), up_cell (by omega)]
theorem c_takeIn (R : RQ q h G) (hF : gFree G < 20) (ha : a < 1024) : ∃ h2, fX1_takeIn q (nI nm) (nI a) (nI b) (nI c) (nI d) h = some (nI (gFree G), h2) ∧ RQ q h2 (gLay G (gFree G) nm a b c d) ∧ h2.1 (q + 1) 8 = h.1 (q + 1) 8 + 1 ∧ (∀ k, (k ≤ q ∨ q + 8 < k) → h2.1 k = h.1 k) ∧ h2.2 = h.2 := by
  obtain ⟨h2, q2, rp, n1, n2, e8, ec, el⟩ := c_add (nm := nm) (b := b) (c := c) (d := d) R.1 hF (nI nm) ha
  have hn := free_th hF
  have hf := hF
  unfold fX1_takeIn
  rw [bd1, q2]
  generalize hfr : gFree G = f at *
  have X : FLX f G (gLay G f nm a b c d) := lay_x
  obtain ⟨o1, o2, o3⟩ := R.2.2.2.2.1 f hf hn
  have w6 : gHeld (gLay G f nm a b c d) f = 0 := lay_0 (by omega) (by omega)
  have w7 : gTold (gLay G f nm a b c d) f = 0 := lay_0 (by omega) (by omega)
  have w8 : gWay (gLay G f nm a b c d) f = 0 := lay_0 (by omega) (by omega)
  have ek : ∀ k, (k ≤ q ∨ q + 8 < k) → h2.1 k = h.1 k := fun k hk => ec k (by omega)
  refine ⟨h2, rfl, R.flow X hf rp n2 (fun _ => by rw [n1, lay_name]) (ek _ (by omega)) (fun g _ => ⟨by rw [ek _ (by omega)], by rw [ek _ (by omega)], by rw [ek _ (by omega)], by rw [ek _ (by omega)]⟩) (fun k _ => ⟨by rw [ek _ (by omega)], by rw [ek _ (by omega)]⟩) (fun _ => ?_) (fun z => by rw [lay_th] at z; cases z) ?_ (fun j _ _ => by rw [ek q (by omega)]), e8, ek, el⟩
  · rw [ek (q + 11) (by omega), ek (q + 13) (by omega), ek (q + 9) (by omega), ek (q + 10) (by omega), w7, w8]
    refine ⟨o1, o2, fun z => absurd rfl z, fun l hl => ?_⟩
    unfold gAh gBh
    rw [lay_k hf (by omega), lay_k hf (by omega)]
    exact o3 l hl
  · rw [ek q (by omega), R.2.2.2.2.2.1]
    refine congrArg nI (mk_cong (fun g hg => ?_))
    by_cases z : g = f
    · rw [z, hn, w6]; simp
    · rw [X.th hf hg z, X.held hf hg z]
theorem gRm_iff (hc : c ≤ 1000000) : ∀ n, c ≤ gRm G a n ↔ ∀ l, l < n → a.testBit l = true → c ≤ gCap G l - gBnd G l := by
  intro n
  induction n with
  | zero => exact ⟨fun _ l hl => absurd hl (Nat.not_lt_zero l), fun _ => hc⟩
  | succ n ih =>
    rw [gRm]
    by_cases z : a.testBit n = true
    · rw [if_pos z]
      constructor
      · intro y l hl hb
        rcases Nat.lt_or_ge l n with w | w
        · exact ih.mp (by omega) l w hb
        · rw [show l = n by omega]; omega
      · intro y
        have y1 := ih.mpr (fun l hl hb => y l (by omega) hb)
        have y2 := y n (by omega) z
        omega
    · rw [if_neg z]
      constructor
      · intro y l hl hb
        rcases Nat.lt_or_ge l n with w | w
        · exact ih.mp y l w hb
        · rw [show l = n by omega] at hb; exact absurd hb z
      · intro y
        exact ih.mpr (fun l hl hb => y l (by omega) hb)
theorem why_rel (R : RP p h G) (M : RM m G) (I : IQ G) (B : IB G) (x1 x2 x3 x4 : Int32) : ∃ r, fX3_whyNoSuchFlow p x1 x2 x3 x4 h = some (r, h) ∧ fX4_whyNot x1 x2 x3 x4 m = some (r, m) ∧ (r = 0 ∨ r = 3 ∨ r = 4 ∨ (r = -1 ∧ gFree G < 20 ∧ ∃ a b c d, x1 = nI a ∧ x2 = nI b ∧ x3 = nI c ∧ x4 = nI d ∧ OKF G a b c d)) := by
  unfold fX3_whyNoSuchFlow fX4_whyNot fX3_whyNoSuchFlow_c34
  rw [c_isPath, e_bd, m_areLinks, e_bd, ic e_c0, ic e_c0]
  by_cases c1 : 1 ≤ x1.toInt ∧ x1.toInt ≤ 1023
  · rw [if_neg (not_not_intro c1), if_neg (not_not_intro c1), c_isWeight, e_bd, m_inl x2 1 9 (by decide) (by decide), e_bd, ic e_c0, ic e_c0]
    by_cases c2 : 1 ≤ x2.toInt ∧ x2.toInt ≤ 9
    · have c2' : ¬ ¬ ((OfNat.ofNat 1 : Int) ≤ x2.toInt ∧ x2.toInt ≤ (OfNat.ofNat 9 : Int)) := not_not_intro c2
      rw [if_neg (not_not_intro c2), if_neg c2', c_isAmount, e_bd, m_inl x3 0 1000000 (by decide) (by decide), e_bd, ic e_c0, ic e_c0]
      by_cases c3 : 0 ≤ x3.toInt ∧ x3.toInt ≤ 1000000
      · have c3' : ¬ ¬ ((OfNat.ofNat 0 : Int) ≤ x3.toInt ∧ x3.toInt ≤ (OfNat.ofNat 1000000 : Int)) := not_not_intro c3
        obtain ⟨a, ha, e⟩ := rng (x := x1) (n := 1024) (by omega) (by omega)
        subst e
        obtain ⟨b, hb, e⟩ := rng (x := x2) (n := 10) (by omega) (by omega)
        subst e
        obtain ⟨c, hc, e⟩ := rng (x := x3) (n := 1000001) (by omega) (by omega)
        subst e
        rw [nI_toInt (by omega)] at c1 c2
        rw [if_neg (not_not_intro c3), if_neg c3', c_isAmount, e_bd, nI_l (by omega), show (1000000 : Int64) = lN 1000000 from rfl, m_in x4 c 1000000 (by omega) (by omega), e_bd, ic e_c0, ic e_c0]
        by_cases c4 : 0 ≤ x4.toInt ∧ x4.toInt ≤ 1000000
        · obtain ⟨d, hd, e⟩ := rng (x := x4) (n := 1000001) (by omega) (by omega)
          subst e
          have hg : gFree G ≤ 20 := fa_first_le _ _
          have hr := gRm_le (G := G) (m := a) 10
          rw [if_neg (not_not_intro c4), if_neg (show ¬ (1 : Int32) = 0 by decide), ic (e_lt (show d < 2147483648 by omega) (show c < 2147483648 by omega)), c_freeNumber R, e_bd, c_hasRoom R I ha, e_bd, ic (bI_0 _), m_freeNumber M I, e_bd, m_roomOf M I B ha, e_bd, ic (e_eql (n := 20) (show gFree G < 2147483648 by omega) (by decide)), ic (e_lt (show gRm G a 10 < 2147483648 by omega) (show c < 2147483648 by omega)), nI_toInt (show d < 2147483648 by omega)]
          by_cases k : d < c
          · rw [if_pos k, if_pos (by omega)]
            exact ⟨_, rfl, rfl, Or.inl rfl⟩
          · rw [if_neg k, if_neg (show ¬ ¬ ((c : Int) ≤ (d : Int) ∧ (d : Int) ≤ ((1000000 : Nat) : Int)) by omega)]
            by_cases k2 : gFree G < 20
            · have k2' : ¬ gFree G = (OfNat.ofNat 20 : Nat) := fun z => by have : gFree G = 20 := z; omega
              rw [if_pos k2, if_neg (by rw [e_ne1 (by omega)]; exact id), if_neg k2']
              have er : al (fun l => !a.testBit l || !decide (nI (gCap G l) < nI (gBnd G l) + nI c)) 10 = decide (c ≤ gRm G a 10) := by
                rw [Bool.eq_iff_iff, al_iff, decide_eq_true_eq, gRm_iff (by omega)]
                constructor
                · intro y l hl hb
                  have hB := B l hl
                  have hC : gCap G l ≤ 1000000 := I.1 l hl
                  have y1 := y l hl
                  rw [hb, Bool.not_true, Bool.false_or, Bool.not_eq_true', decide_eq_false_iff_not, nI_add, e_lt (by omega) (by omega)] at y1
                  omega
                · intro y l hl
                  have hB := B l hl
                  have hC : gCap G l ≤ 1000000 := I.1 l hl
                  by_cases hb : a.testBit l = true
                  · have := y l hl hb
                    rw [hb, Bool.not_true, Bool.false_or, Bool.not_eq_true', decide_eq_false_iff_not, nI_add, e_lt (by omega) (by omega)]
                    omega
                  · rw [show a.testBit l = false by simpa using hb]; rfl
              rw [er]
              by_cases k3 : c ≤ gRm G a 10
              · rw [if_neg (by simp; exact k3), if_neg (by omega)]
                refine ⟨_, rfl, rfl, Or.inr (Or.inr (Or.inr ⟨rfl, k2, a, b, c, d, rfl, rfl, rfl, rfl, by omega, ha, by omega, by omega, by omega, by omega, fun l hl hb => ?_⟩))⟩
                have hB := B l hl
                have := (gRm_iff (by omega) 10).mp k3 l hl hb
                omega
              · rw [if_pos (by simp; omega), if_pos (by omega)]
                exact ⟨_, rfl, rfl, Or.inr (Or.inr (Or.inl rfl))⟩
            · have k2' : gFree G = (OfNat.ofNat 20 : Nat) := show gFree G = 20 by omega
              rw [if_neg k2, if_pos rfl, if_pos k2']
              exact ⟨_, rfl, rfl, Or.inr (Or.inl rfl)⟩
        · rw [if_pos c4, if_pos rfl, if_pos (by omega)]
          exact ⟨_, rfl, rfl, Or.inl rfl⟩
      · have c3' : ¬ ((OfNat.ofNat 0 : Int) ≤ x3.toInt ∧ x3.toInt ≤ (OfNat.ofNat 1000000 : Int)) := c3
        rw [if_pos c3, if_pos c3', if_pos rfl]
        exact ⟨_, rfl, rfl, Or.inl rfl⟩
    · have c2' : ¬ ((OfNat.ofNat 1 : Int) ≤ x2.toInt ∧ x2.toInt ≤ (OfNat.ofNat 9 : Int)) := c2
      rw [if_pos c2, if_pos c2', if_pos rfl]
      exact ⟨_, rfl, rfl, Or.inl rfl⟩
  · rw [if_pos c1, if_pos c1, if_pos rfl]
    exact ⟨_, rfl, rfl, Or.inl rfl⟩
end
