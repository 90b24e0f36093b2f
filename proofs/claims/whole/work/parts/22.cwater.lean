/-! ===== the class's water ===== -/
def ntz (x : Int32) : Int32 :=
  let a := (x ^^^ (-1)) &&& (x - 1)
  if (0 < a : Prop) then
    (if (65536 < a : Prop) then (let b := th_us a 16; if (256 < b : Prop) then (let c := th_us b 8; if (16 < c : Prop) then (let d := th_us c 4; if (4 < d : Prop) then ((1 + 16 + 8 + 4) + 2) + (th_us (th_us d 2) 1) else (1 + 16 + 8 + 4) + (th_us d 1)) else (if (4 < c : Prop) then ((1 + 16 + 8) + 2) + (th_us (th_us c 2) 1) else (1 + 16 + 8) + (th_us c 1))) else (if (16 < b : Prop) then (let d := th_us b 4; if (4 < d : Prop) then ((1 + 16 + 4) + 2) + (th_us (th_us d 2) 1) else (1 + 16 + 4) + (th_us d 1)) else (if (4 < b : Prop) then ((1 + 16) + 2) + (th_us (th_us b 2) 1) else (1 + 16) + (th_us b 1))))
    else (if (256 < a : Prop) then (let c := th_us a 8; if (16 < c : Prop) then (let d := th_us c 4; if (4 < d : Prop) then ((1 + 8 + 4) + 2) + (th_us (th_us d 2) 1) else (1 + 8 + 4) + (th_us d 1)) else (if (4 < c : Prop) then ((1 + 8) + 2) + (th_us (th_us c 2) 1) else (1 + 8) + (th_us c 1))) else (if (16 < a : Prop) then (let d := th_us a 4; if (4 < d : Prop) then ((1 + 4) + 2) + (th_us (th_us d 2) 1) else (1 + 4) + (th_us d 1)) else (if (4 < a : Prop) then (1 + 2) + (th_us (th_us a 2) 1) else 1 + (th_us a 1)))))
  else a &&& 32
theorem ntz_eq (x : Int32) (h : th_H) : fJ6_numberOfTrailingZeros_0f7a4 x h = some (ntz x, h) := by
  unfold fJ6_numberOfTrailingZeros_0f7a4 fJ6_numberOfTrailingZeros_0f7a4_c34 fJ6_numberOfTrailingZeros_0f7a4_c49 fJ6_numberOfTrailingZeros_0f7a4_c62 ntz
  dsimp only
  repeat' split
  all_goals rfl
theorem ntz_ok : ∀ x, x < 1024 → x = 0 ∨ ntz (nI x) = nI (fa_first x.testBit 10) := by decide +kernel
theorem c_ntz {x : Nat} (h0 : x ≠ 0) (hx : x < 1024) (h : th_H) : fJ6_numberOfTrailingZeros_0f7a4 (nI x) h = some (nI (fa_first x.testBit 10), h) := by
  rw [ntz_eq]
  rcases ntz_ok x hx with z | z
  · exact absurd z h0
  · rw [z]
theorem c_fill {a na : Nat} (hn : na < 1000) (v : Int32) (h : th_H) : ∃ h2, fJ7_fill_53178 a na v h = some ((), h2) ∧ (∀ i, i < na → h2.1 a i = v) ∧ (∀ c, c ≠ a → h2.1 c = h.1 c) ∧ h2.2 = h.2 := by
  have key : ∀ d i fu h1, i + d = na → d < fu → (∀ j, j < i → h1.1 a j = v) → (∀ c, c ≠ a → h1.1 c = h.1 c) → h1.2 = h.2 → ∃ h2, fJ7_fill_53178_c5 a na fu v (nI i) (nI na) h1 = some ((), h2) ∧ (∀ i, i < na → h2.1 a i = v) ∧ (∀ c, c ≠ a → h2.1 c = h.1 c) ∧ h2.2 = h.2 := by
    intro d
    induction d with
    | zero =>
      intro i fu h1 hi hfu P1 P2 P3
      obtain ⟨j, rfl⟩ : ∃ j, fu = j + 1 := ⟨fu - 1, by omega⟩
      rw [show i = na by omega] at P1 ⊢
      exact ⟨h1, by rw [fJ7_fill_53178_c5, if_neg (nI_nlt (Nat.le_refl _) (by omega))], P1, P2, P3⟩
    | succ d ih =>
      intro i fu h1 hi hfu P1 P2 P3
      obtain ⟨j, rfl⟩ : ∃ j, fu = j + 1 := ⟨fu - 1, by omega⟩
      rw [fJ7_fill_53178_c5, if_pos (nI_lt (by omega) (by omega)), e_wr (by omega) (by omega), nI_1]
      refine ih (i + 1) j _ (by omega) (by omega) (fun k hk => ?_) (fun c hc => by rw [up_cell hc]; exact P2 c hc) P3
      rw [up_at]
      by_cases q : k = i
      · rw [if_pos ⟨rfl, q⟩]
      · rw [if_neg (fun z => q z.2)]; exact P1 k (by omega)
  exact key na 0 1000 h (by omega) (by omega) (fun j hj => absurd hj (Nat.not_lt_zero j)) (fun _ _ => rfl) rfl
theorem and0 {a b : Nat → Bool} : mk a 20 &&& mk b 20 = 0 ↔ an (fun f => a f && b f) 20 = false := by
  have hlt : mk a 20 &&& mk b 20 < 2 ^ 20 := Nat.lt_of_le_of_lt Nat.and_le_left (mk_lt a 20)
  rw [bits0 hlt]
  constructor
  · intro h1
    cases c : an (fun f => a f && b f) 20
    · rfl
    · obtain ⟨f, hf, h2⟩ := an_iff.mp c
      have := h1 f hf
      rw [Nat.testBit_and, mk20_bit _ hf, mk20_bit _ hf, h2] at this
      cases this
  · intro h1 i hi
    rw [Nat.testBit_and, mk20_bit _ hi, mk20_bit _ hi]
    cases c : (a i && b i)
    · rfl
    · have : an (fun f => a f && b f) 20 = true := an_iff.mpr ⟨i, hi, c⟩
      rw [h1] at this
      cases this
theorem not_bits {a b : Nat → Bool} : nI (mk a 20) &&& (nI (mk b 20) ^^^ (-1)) = nI (mk (fun f => a f && !b f) 20) := by
  rw [e_m1, fb_xorI, fa_and]
  congr 1
  apply Nat.eq_of_testBit_eq
  intro i
  rw [Nat.testBit_and, Nat.testBit_xor, mk_bit, mk_bit, mk_bit]
  by_cases c : i < 20
  · have : (4294967295 : Nat).testBit i = true := by
      have h : ∀ i, i < 20 → (4294967295 : Nat).testBit i = true := by decide
      exact h i c
    rw [this]
    simp [c]
  · simp [c]
section
variable {p w : Nat} {h : th_H} {G : GR} {v : LV}
def WS (w : Nat) (h : th_H) (v : LV) : Prop := ∀ f, f < 20 → h.1 (w + 1) f = nI ((v f).getD 1000000)
def WZ (w : Nat) (h h2 : th_H) : Prop := (∀ c, (c < w ∨ w + 7 < c) → h2.1 c = h.1 c) ∧ h2.2 = h.2
theorem WZ.rf : WZ w h h := ⟨fun _ _ => rfl, rfl⟩
theorem WZ.tr {h1 h2 : th_H} (a : WZ w h h1) (b : WZ w h1 h2) : WZ w h h2 := ⟨fun c x => (b.1 c x).trans (a.1 c x), b.2.trans a.2⟩
theorem WZ.up {h1 : th_H} (a : WZ w h h1) {c k : Nat} {x : Int32} (hc : w ≤ c) (hc2 : c ≤ w + 7) : WZ w h (th_up h1 c k x) := ⟨fun d y => by rw [up_cell (by omega)]; exact a.1 d y, a.2⟩
theorem WZ.rp {h1 : th_H} (a : WZ w h h1) (hw : p + 8 ≤ w) (R : RP p h G) : RP p h1 G := R.off (fun c x y _ => a.1 c (by omega)) (by rw [a.1 p (by omega)])
def TW (w : Nat) (h : th_H) (G : GR) (v : LV) (n : Nat) : Prop := ∀ l, l < n → h.1 (w + 7) l = enc (if fOpL G v l = true then some (fT G v l) else none)
theorem getD_le (bv : BV v) (f : Nat) : (v f).getD 1000000 ≤ 1000000 := by
  cases q : v f with
  | none => exact Nat.le_refl _
  | some x => have := bv f x q; simpa using this
theorem opL_and (l : Nat) : an (fun f => gOv G f l && fOp G v f) 20 = fOpL G v l := by
  refine an_cong (fun f _ => ?_)
  unfold fOp gOv
  cases gTh G f <;> simp
/-- what a step may stand on, in the class's words -/
def JJ (G : GR) (v : LV) : Prop := (∀ f, v f = none) ∨ ∃ s, s ≤ 1000000 ∧ JS G v s
theorem c_nextSurface (R : RP p h G) (I : IQ G) (B : IB G) (hw : p + 8 ≤ w) (L : WS w h v) (bv : BV v) (J : JJ G v) (ha : fAny G v = true) : ∃ h2, fX2_nextSurface w p (nI (mk (fOp G v) 20)) h = some (nI (fS G v), h2) ∧ TW w h2 G v 10 ∧ (∀ c, c ≠ w + 7 → h2.1 c = h.1 c) ∧ h2.2 = h.2 := by
  have hs := fS_le I ha
  have key : ∀ d i fu h1, i + d = 10 → d < fu → TW w h1 G v i → (∀ c, c ≠ w + 7 → h1.1 c = h.1 c) → h1.2 = h.2 → ∃ h2, fX2_nextSurface_c5 w p fu (nI (mk (fOp G v) 20)) (nI (min 1000000 (fML G v i))) (nI i) h1 = some (nI (fS G v), h2) ∧ TW w h2 G v 10 ∧ (∀ c, c ≠ w + 7 → h2.1 c = h.1 c) ∧ h2.2 = h.2 := by
    intro d
    induction d with
    | zero =>
      intro i fu h1 hi hfu P1 P2 P3
      obtain ⟨j, rfl⟩ : ∃ j, fu = j + 1 := ⟨fu - 1, by omega⟩
      rw [show i = 10 by omega] at P1 ⊢
      refine ⟨h1, ?_, P1, P2, P3⟩
      have R1 : RP p h1 G := R.off (fun c x y _ => P2 c (by omega)) (by rw [P2 p (by omega)])
      rw [fX2_nextSurface_c5, if_neg (by decide)]
      rw [show fS G v = min 1000000 (fMF G v 20) by unfold fS at hs ⊢; omega]
      refine for_up 20 (fun fu i => fX2_nextSurface_c69 w p fu (nI (mk (fOp G v) 20)) (nI (min 1000000 (fMF G v i))) (nI i) h1) _ ?_ ?_ (by omega)
      · intro fu i hi
        rw [fX2_nextSurface_c69, if_pos (show nI i < (20 : Int32) from nI_lt (a := i) (b := 20) hi (by omega)), e_bit (mk20 _) (by omega), ic e_c0, mk20_bit _ hi, nI_1, fMF]
        by_cases c : fOp G v i = true
        · have ht := (fOp_th c).1
          have hO := gOwn_le I hi ht
          rw [if_neg (not_not_intro c), if_pos c, c_ownOf R1 I hi ht, e_bd, e_mn (by omega) (by omega), show min (min 1000000 (fMF G v i)) (gOwn G i) = min 1000000 (min (fMF G v i) (gOwn G i)) by omega]
        · rw [if_pos c, if_neg c]
      · intro fu
        rw [fX2_nextSurface_c69, if_neg (by decide)]
    | succ d ih =>
      intro i fu h1 hi hfu P1 P2 P3
      obtain ⟨j, rfl⟩ : ∃ j, fu = j + 1 := ⟨fu - 1, by omega⟩
      have hi2 : i < 10 := by omega
      have e2 : (th_up h1 (w + 7) i (-1)).1 (p + 2) i = nI (mk (fun f => gOv G f i) 20) := by rw [up_cell (by omega), P2 _ (by omega)]; exact R.2.1 i hi2
      rw [fX2_nextSurface_c5, if_pos (show nI i < (10 : Int32) from nI_lt (a := i) (b := 10) hi2 (by omega)), e_wr hi2 (by omega), e_rd hi2 (by omega), e2, fa_and, ic (e_eql (n := 0) (show mk (fun f => gOv G f i) 20 &&& mk (fOp G v) 20 < 2147483648 from Nat.lt_of_le_of_lt Nat.and_le_left (mk20 _)) (by decide))]
      have T2 : ∀ x, x = enc (if fOpL G v i = true then some (fT G v i) else none) → TW w (th_up h1 (w + 7) i x) G v (i + 1) := by
        intro x hx l hl
        rw [up_at]
        by_cases q : l = i
        · rw [if_pos ⟨rfl, q⟩, q]; exact hx
        · rw [if_neg (fun z => q z.2)]; exact P1 l (by omega)
      have hz : (mk (fun f => gOv G f i) 20 &&& mk (fOp G v) 20 = 0) ↔ fOpL G v i = false := by rw [and0, opL_and]
      by_cases c : fOpL G v i = true
      · have c0 : ¬ (mk (fun f => gOv G f i) 20 &&& mk (fOp G v) 20 = (OfNat.ofNat 0 : Nat)) := fun z => by
          have := hz.mp z
          rw [c] at this
          cases this
        have R1 : RP p (th_up h1 (w + 7) i (-1)) G := R.off (fun c x y _ => by rw [up_cell (by omega)]; exact P2 c (by omega)) (by rw [up_cell (by omega), P2 p (by omega)])
        have h0 : lS G (fun f => (v f).getD 1000000) i 0 ≤ gCap G i := by
          have : lS G (fun f => (v f).getD 1000000) i 0 = gBnd G i := fb_sm_cong (fun f _ => by
            by_cases c : gOv G f i = true
            · simp only [if_pos c]
              simp [gRate]
            · simp only [if_neg c])
          rw [this]; exact B i hi2
        have hg := c_greatestLevel (lim := fun f => (v f).getD 1000000) (a := w + 1) R1 I hi2 (fun f hf _ => ⟨by rw [up_cell (by omega), P2 _ (by omega)]; exact L f hf, getD_le bv f⟩) h0
        have ht : gl (fun t => decide (lS G (fun f => (v f).getD 1000000) i t ≤ gCap G i)) = fT G v i := cW_tide J hi2
        have hT := fT_le (G := G) (v := v) i
        rw [if_neg c0, hg, e_bd, ht, e_wr hi2 (by omega), up_up, e_rd hi2 (by omega), up_same, e_mn (by omega) (by omega), nI_1, show min (min 1000000 (fML G v i)) (fT G v i) = min 1000000 (fML G v (i + 1)) by rw [fML, if_pos c]; omega]
        exact ih (i + 1) j _ (by omega) (by omega) (T2 _ (by rw [if_pos c]; rfl)) (fun c hc => by rw [up_cell hc]; exact P2 c hc) P3
      · have c2 : fOpL G v i = false := by simpa using c
        rw [if_pos (show mk (fun f => gOv G f i) 20 &&& mk (fOp G v) 20 = (OfNat.ofNat 0 : Nat) from hz.mpr c2), nI_1, show min 1000000 (fML G v i) = min 1000000 (fML G v (i + 1)) by rw [fML, if_neg c]]
        exact ih (i + 1) j _ (by omega) (by omega) (T2 _ (by rw [if_neg c]; rfl)) (fun c hc => by rw [up_cell hc]; exact P2 c hc) P3
  exact key 10 0 1000 h (by omega) (by omega) (fun l hl => absurd hl (Nat.not_lt_zero l)) (fun _ _ => rfl) rfl
theorem c_linksAt (T : TW w h G v 10) {s : Nat} (hs : fS G v = s) (h1 : s ≤ 1000000) : fX2_linksAt w p (nI s) h = some (nI (mk (fK G v) 10), h) := by
  unfold fX2_linksAt
  refine for_up 10 (fun fu i => fX2_linksAt_c4 w p fu (nI s) (nI (mk (fK G v) i)) (nI i) h) _ ?_ ?_ (by omega)
  · intro fu i hi
    rw [fX2_linksAt_c4, if_pos (show nI i < (10 : Int32) from nI_lt (a := i) (b := 10) hi (by omega)), e_rd hi (by omega), T i hi, ic (tide_eq hs h1), nI_1, mk]
    by_cases c : fK G v i = true
    · rw [if_pos c, if_pos c, e_shl (by omega), fa_or]
    · rw [if_neg c, if_neg c, show (0 : Int32) = nI 0 from rfl, fa_or]
  · intro fu
    rw [fX2_linksAt_c4, if_neg (by decide)]
theorem c_fixedBy (R : RP p h G) (I : IQ G) {s : Nat} (hs : fS G v = s) (h1 : s ≤ 1000000) : fX2_fixedBy w p (nI (mk (fOp G v) 20)) (nI s) (nI (mk (fK G v) 10)) h = some (nI (mk (fX G v) 20), h) := by
  unfold fX2_fixedBy
  refine for_up 20 (fun fu i => fX2_fixedBy_c6 w p fu (nI (mk (fOp G v) 20)) (nI s) (nI (mk (fK G v) 10)) (nI (mk (fX G v) i)) (nI i) h) _ ?_ ?_ (by omega)
  · intro fu i hi
    have em : mk (fX G v) (i + 1) = mk (fX G v) i ||| (if fX G v i = true then 2 ^ i else 0) := rfl
    rw [fX2_fixedBy_c6, if_pos (show nI i < (20 : Int32) from nI_lt (a := i) (b := 20) hi (by omega)), e_bit (mk20 _) (by omega), ic e_c0, mk20_bit _ hi, nI_1, em]
    by_cases c : fOp G v i = true
    · have ht := (fOp_th c).1
      have hO := gOwn_le I hi ht
      obtain ⟨p1, p2, p3⟩ := path_and I hi ht (fK G v)
      rw [if_neg (not_not_intro c), c_ownOf R I hi ht, e_bd, ic (e_eq (show gOwn G i < 2147483648 by omega) (show s < 2147483648 by omega))]
      by_cases c2 : gOwn G i = s
      · rw [if_pos c2, if_pos (by simp [fX, c, hs, c2]), e_shl (by omega), fa_or]
      · rw [if_neg c2, e_rd hi (by omega), R.2.2.1 i hi, if_pos ht, fa_and, ic (e_eql (n := 0) (show gPath G i &&& mk (fK G v) 10 < 2147483648 by omega) (by decide))]
        by_cases c3 : gPath G i &&& mk (fK G v) 10 = 0
        · have := p2.mp c3
          rw [if_pos (show gPath G i &&& mk (fK G v) 10 = (OfNat.ofNat 0 : Nat) from c3), if_neg (by simp [fX, this, hs, c2]), Nat.or_zero]
        · have h5 : an (fun l => (gPath G i).testBit l && fK G v l) 10 = true := by
            cases q : an (fun l => (gPath G i).testBit l && fK G v l) 10
            · exact absurd (p2.mpr q) c3
            · rfl
          rw [if_neg (show ¬ gPath G i &&& mk (fK G v) 10 = (OfNat.ofNat 0 : Nat) from c3), if_pos (by simp [fX, c, h5]), e_shl (by omega), fa_or]
    · rw [if_pos c, if_neg (fun z => c (fX_op z)), Nat.or_zero]
  · intro fu
    rw [fX2_fixedBy_c6, if_neg (by decide)]
end
