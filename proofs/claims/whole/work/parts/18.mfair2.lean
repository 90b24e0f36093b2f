/-! ===== FAIR of the reference: a step, and all ===== -/
theorem for_downN {β : Type} (N : Nat) (F : Nat → Nat → β) (z : β) (step : ∀ fu i, i < N → F (fu + 1) (i + 1) = F fu i) (ex : ∀ fu, F (fu + 1) 0 = z) : ∀ i fu, i ≤ N → i < fu → F fu i = z := by
  intro i
  induction i with
  | zero =>
    intro fu _ hf
    obtain ⟨k, rfl⟩ : ∃ k, fu = k + 1 := ⟨fu - 1, by omega⟩
    exact ex k
  | succ i ih =>
    intro fu hN hf
    obtain ⟨k, rfl⟩ : ∃ k, fu = k + 1 := ⟨fu - 1, by omega⟩
    rw [step k i (by omega)]
    exact ih k (by omega) (by omega)
theorem up_up {h : th_H} {a k : Nat} {x y : Int32} : th_up (th_up h a k x) a k y = th_up h a k y := by
  refine Prod.ext ?_ rfl
  funext i j
  show (th_up (th_up h a k x) a k y).1 i j = (th_up h a k y).1 i j
  rw [up_at, up_at, up_at]
  by_cases c : i = a ∧ j = k
  · rw [if_pos c, if_pos c]
  · rw [if_neg c, if_neg c, if_neg c]
theorem up_self {h : th_H} {a k : Nat} {x : Int32} (e : h.1 a k = x) : th_up h a k x = h := by
  refine Prod.ext ?_ rfl
  funext i j
  show (th_up h a k x).1 i j = h.1 i j
  rw [up_at]
  by_cases c : i = a ∧ j = k
  · rw [if_pos c, c.1, c.2, e]
  · rw [if_neg c]
theorem first_eq {p : Nat → Bool} {n r : Nat} (h1 : r ≤ n) (h2 : ∀ j, j < r → p j = false) (h3 : r = n ∨ p r = true) : fa_first p n = r := by
  have a1 := fa_first_le p n
  rcases Nat.lt_trichotomy (fa_first p n) r with h | h | h
  · have := fa_first_yes p n (by omega)
    rw [h2 _ h] at this
    cases this
  · exact h
  · have := fa_first_no p n r h
    rcases h3 with h3 | h3
    · omega
    · rw [h3] at this
      cases this
/-- the lowest of ten, found from above -/
def wd (p : Nat → Bool) : Nat → Nat
  | 0 => 10
  | d + 1 => if p (9 - d) = true then 9 - d else wd p d
theorem wd_ok (p : Nat → Bool) : ∀ d, d ≤ 10 → (wd p d = 10 ∧ ∀ l, 10 - d ≤ l → l < 10 → p l = false) ∨ (10 - d ≤ wd p d ∧ wd p d < 10 ∧ p (wd p d) = true ∧ ∀ l, 10 - d ≤ l → l < wd p d → p l = false) := by
  intro d
  induction d with
  | zero => intro _; exact Or.inl ⟨rfl, fun l h1 h2 => by omega⟩
  | succ d ih =>
    intro hd
    rw [wd]
    by_cases c : p (9 - d) = true
    · rw [if_pos c]
      exact Or.inr ⟨by omega, by omega, c, fun l h1 h2 => by omega⟩
    · rw [if_neg c]
      have c2 : p (9 - d) = false := by simpa using c
      rcases ih (by omega) with ⟨h1, h2⟩ | ⟨h1, h2, h3, h4⟩
      · refine Or.inl ⟨h1, fun l h5 h6 => ?_⟩
        rcases Nat.eq_or_lt_of_le h5 with e | e
        · rw [← e, show 10 - (d + 1) = 9 - d by omega]; exact c2
        · exact h2 l (by omega) h6
      · refine Or.inr ⟨by omega, h2, h3, fun l h5 h6 => ?_⟩
        rcases Nat.eq_or_lt_of_le h5 with e | e
        · rw [← e, show 10 - (d + 1) = 9 - d by omega]; exact c2
        · exact h4 l (by omega) h6
theorem wd_10 (p : Nat → Bool) : wd p 10 = fa_first p 10 := by
  rcases wd_ok p 10 (by omega) with ⟨h1, h2⟩ | ⟨h1, h2, h3, h4⟩
  · rw [h1]
    exact (first_eq (by omega) (fun j hj => h2 j (by omega) hj) (Or.inl rfl)).symm
  · exact (first_eq (by omega) (fun j hj => h4 j (by omega) hj) (Or.inr h3)).symm
section
variable {h : th_H} {G : GR} {v : LV}
def TD (h : th_H) (G : GR) (v : LV) : Prop := ∀ l, l < 10 → h.1 13 l = enc (if fOpL G v l = true then some (fT G v l) else none)
theorem tide_eq {l s : Nat} (hs : fS G v = s) (h1 : s ≤ 1000000) : (enc (if fOpL G v l = true then some (fT G v l) else none) = nI s) = (fK G v l = true) := by
  rw [enc_eq _ (fun x hx => by
    by_cases c : fOpL G v l = true
    · rw [if_pos c] at hx
      have := Option.some.inj hx
      have := fT_le (G := G) (v := v) l
      omega
    · rw [if_neg c] at hx; cases hx) h1]
  unfold fK
  rw [hs]
  by_cases c : fOpL G v l = true
  · rw [if_pos c, c]
    simp
  · rw [if_neg c]
    simp [c]
theorem m_fix_c32 {k s : Nat} (hk : k < 20) (hst : h.1 0 13 = nI k) (T : TD h G v) (hs : fS G v = s) (h1 : s ≤ 1000000) : fX4_fix_c32 1000 (nI s) 0 (th_up h 12 k 0) = fX4_fix_c75 1000 (nI s) 0 (th_up h 12 k (nI (mk (fK G v) 10))) := by
  refine for_up 10 (fun fu i => fX4_fix_c32 fu (nI s) (nI i) (th_up h 12 k (nI (mk (fK G v) i)))) _ ?_ ?_ (by omega)
  · intro fu i hi
    have e1 : (th_up h 12 k (nI (mk (fK G v) i))).1 0 13 = nI k := by rw [up_cell (by omega)]; exact hst
    have e2 : (th_up h 12 k (nI (mk (fK G v) i))).1 13 i = enc (if fOpL G v i = true then some (fT G v i) else none) := by rw [up_cell (by omega)]; exact T i hi
    simp (disch := omega) only [fX4_fix_c32, e_bd, e_st, e_addl, e_ladd, e_lmul, nI_add, nI_1, pk_mul, e_ltl, e_llt, e_eql, e_lt, e_eq, e_c0, e_c1, e_10, e_01, e_gb0, e_gb1, e_gbc, e_dv, ↓reduceIte, not_true_eq_false, not_false_eq_true, and_self, and_true, true_and, Bool.false_eq_true, Nat.reduceAdd, Nat.reduceMul, m_inl, m_at, m_lesser, m_isLink, m_areLinks, hi, e1, e_rd, e_wr, up_same, e2, up_up, mk]
    rw [ic (tide_eq hs h1)]
    by_cases c : fK G v i = true
    · rw [if_pos c, if_pos c, e_shl (by omega), fa_or]
    · rw [if_neg c, if_neg c, show (0 : Int32) = nI 0 from rfl, fa_or]
  · intro fu
    simp (disch := omega) only [fX4_fix_c32, e_bd, e_st, e_addl, e_ladd, e_lmul, nI_add, nI_1, pk_mul, e_ltl, e_llt, e_eql, e_lt, e_eq, e_c0, e_c1, e_10, e_01, e_gb0, e_gb1, e_gbc, e_dv, ↓reduceIte, not_true_eq_false, not_false_eq_true, and_self, and_true, true_and, Bool.false_eq_true, Nat.reduceAdd, Nat.reduceMul, m_inl, m_at, m_lesser, m_isLink, m_areLinks, Nat.lt_irrefl]
theorem m_fix_c134 {k s f x : Nat} (hk : k < 20) (hf : f < 20) (hx : x < 1024) (hst : h.1 0 13 = nI k) {m : Nat} (hm : h.1 11 k = nI m) (K : Int32 → Int32 → th_H → Option (Int32 × th_H)) :
    fX4_fix_c134 K (nI s) (nI f) (nI x) h = K (nI s) (nI (f + 1)) (th_up (th_up (th_up h 11 k (nI (m ||| 2 ^ f))) 8 f (nI (fa_first x.testBit 10))) 9 f (nI k)) := by
  unfold fX4_fix_c134
  have e0 : (th_up h 11 k (nI (m ||| 2 ^ f))).1 0 13 = nI k := by rw [up_cell (by omega)]; exact hst
  simp (disch := omega) only [hst, e_rd, e_wr, hm, e_shl, fa_or]
  rw [← wd_10]
  have key : ∀ i fu, i ≤ 10 → i < fu → fX4_fix_c161 K fu (nI s) (nI f) (nI x) (nI i + (-1)) (th_up (th_up h 11 k (nI (m ||| 2 ^ f))) 8 f (nI (wd x.testBit (10 - i)))) = K (nI s) (nI (f + 1)) (th_up (th_up (th_up h 11 k (nI (m ||| 2 ^ f))) 8 f (nI (wd x.testBit 10))) 9 f (nI k)) := by
   refine for_downN 10 (fun fu i => fX4_fix_c161 K fu (nI s) (nI f) (nI x) (nI i + (-1)) (th_up (th_up h 11 k (nI (m ||| 2 ^ f))) 8 f (nI (wd x.testBit (10 - i))))) _ ?_ ?_
   · intro fu i hi
     have e1 : (th_up (th_up h 11 k (nI (m ||| 2 ^ f))) 8 f (nI (wd x.testBit (10 - (i + 1))))).1 8 f = nI (wd x.testBit (10 - (i + 1))) := up_same
     rw [pk_m1, fX4_fix_c161, if_neg (nI_pos (by omega)), e_bit (by omega) (by omega), ic e_c1]
     have e2 : wd x.testBit (10 - i) = if x.testBit i = true then i else wd x.testBit (10 - (i + 1)) := by
       rw [show 10 - i = (10 - (i + 1)) + 1 by omega, wd, show 9 - (10 - (i + 1)) = i by omega]
     rw [e2]
     by_cases c : x.testBit i = true
     · rw [if_pos c, if_pos c, e_wr hf (by omega), up_up]
     · rw [if_neg c, if_neg c, e_rd hf (by omega), e1, e_wr hf (by omega), up_up]
   · intro fu
     have e1 : (th_up (th_up h 11 k (nI (m ||| 2 ^ f))) 8 f (nI (wd x.testBit (10 - 0)))).1 0 13 = nI k := by rw [up_cell (by omega)]; exact e0
     rw [fX4_fix_c161, if_pos (by decide), e1, e_wr hf (by omega), nI_1]
  have k0 := key 10 1000 (by omega) (by omega)
  rw [show wd x.testBit (10 - 10) = 10 from rfl, show nI 10 + (-1) = (9 : Int32) by decide] at k0
  exact k0
/-- while flows are fixed: what has been written so far -/
def PX (G : GR) (v : LV) (k : Nat) (h0 h : th_H) (i : Nat) : Prop :=
  h.1 11 k = nI (mk (fX G v) i) ∧ (∀ c, c ≠ 8 → c ≠ 9 → c ≠ 11 → h.1 c = h0.1 c) ∧ (∀ j, j ≠ k → h.1 11 j = h0.1 11 j) ∧ h.2 = h0.2 ∧
  ∀ f, (f < i → fX G v f = true → h.1 8 f = nI (fWit G v f) ∧ h.1 9 f = nI k) ∧ ((i ≤ f ∨ fX G v f = false) → h.1 8 f = h0.1 8 f ∧ h.1 9 f = h0.1 9 f)
theorem path_and (I : IQ G) {f : Nat} (hf : f < 20) (ht : gTh G f = true) (q : Nat → Bool) : gPath G f &&& mk q 10 < 1024 ∧ (gPath G f &&& mk q 10 = 0 ↔ an (fun l => (gPath G f).testBit l && q l) 10 = false) ∧ fa_first (gPath G f &&& mk q 10).testBit 10 = fa_first (fun l => (gPath G f).testBit l && q l) 10 := by
  obtain ⟨-, a, -⟩ := (I.2 f hf).2 ht
  have hb : ∀ i, i < 10 → (gPath G f &&& mk q 10).testBit i = ((gPath G f).testBit i && q i) := by
    intro i hi
    rw [Nat.testBit_and, mk_bit]
    simp [hi]
  have hlt : gPath G f &&& mk q 10 < 1024 := Nat.lt_of_le_of_lt Nat.and_le_left a
  refine ⟨hlt, ?_, ?_⟩
  · rw [bits0 (n := 10) hlt]
    constructor
    · intro h1
      cases c : an (fun l => (gPath G f).testBit l && q l) 10
      · rfl
      · obtain ⟨l, hl, h2⟩ := an_iff.mp c
        have := h1 l hl
        rw [hb l hl, h2] at this
        cases this
    · intro h1 i hi
      rw [hb i hi]
      cases c : ((gPath G f).testBit i && q i)
      · rfl
      · have : an (fun l => (gPath G f).testBit l && q l) 10 = true := an_iff.mpr ⟨i, hi, c⟩
        rw [h1] at this
        cases this
  · refine first_eq (fa_first_le _ _) (fun j hj => ?_) ?_
    · have h2 := fa_first_le (fun l => (gPath G f).testBit l && q l) 10
      rw [hb j (by omega)]
      exact fa_first_no (fun l => (gPath G f).testBit l && q l) 10 j hj
    · rcases Nat.lt_or_ge (fa_first (fun l => (gPath G f).testBit l && q l) 10) 10 with z | z
      · right
        rw [hb _ z]
        exact fa_first_yes (fun l => (gPath G f).testBit l && q l) 10 z
      · left
        have := fa_first_le (fun l => (gPath G f).testBit l && q l) 10
        omega
theorem m_fix_c75 {h0 : th_H} {k s : Nat} (R : RM h0 G) (I : IQ G) (L : LVL h0 v) (bv : BV v) (hk : k < 20) (hst : h0.1 0 13 = nI k) (hlk : h0.1 12 k = nI (mk (fK G v) 10)) (hs : fS G v = s) (h1 : s ≤ 1000000) : ∀ d i fu h, i + d = 20 → d < fu → PX G v k h0 h i → ∃ h2, fX4_fix_c75 fu (nI s) (nI i) h = fX4_fix_c217 1000 (nI s) 0 h2 ∧ PX G v k h0 h2 20 := by
  intro d
  induction d with
  | zero =>
    intro i fu h hi hfu P
    obtain ⟨j, rfl⟩ : ∃ j, fu = j + 1 := ⟨fu - 1, by omega⟩
    rw [show i = 20 by omega] at P ⊢
    exact ⟨h, by rw [fX4_fix_c75, if_neg (by decide)], P⟩
  | succ d ih =>
    intro i fu h hi hfu P
    obtain ⟨j, rfl⟩ : ∃ j, fu = j + 1 := ⟨fu - 1, by omega⟩
    have hi2 : i < 20 := by omega
    obtain ⟨P1, P2, P3, P4, P5⟩ := P
    have R1 : RM h G := R.off (P2 2 (by omega) (by omega) (by omega))
    have L1 : LVL h v := fun f hf => by rw [P2 7 (by omega) (by omega) (by omega)]; exact L f hf
    have e1 : h.1 0 13 = nI k := by rw [P2 0 (by omega) (by omega) (by omega)]; exact hst
    have e2 : h.1 12 k = nI (mk (fK G v) 10) := by rw [P2 12 (by omega) (by omega) (by omega)]; exact hlk
    have e3 : G (23 + 11 * i + 2) = gPath G i := rfl
    have stay : fX G v i = false → PX G v k h0 h (i + 1) := by
      intro c
      refine ⟨by rw [mk, if_neg (by simp [c])]; simpa using P1, P2, P3, P4, fun f => ⟨fun h2 h3 => ?_, fun h2 => (P5 f).2 (h2.elim (fun z => Or.inl (by omega)) Or.inr)⟩⟩
      have : f ≠ i := fun e => by rw [e, c] at h3; cases h3
      exact (P5 f).1 (by omega) h3
    simp (disch := omega) only [fX4_fix_c75, e_bd, e_st, e_addl, e_ladd, e_lmul, nI_add, nI_1, pk_mul, e_ltl, e_llt, e_eql, e_lt, e_eq, e_c0, e_c1, e_10, e_01, e_gb0, e_gb1, e_gbc, e_dv, ↓reduceIte, not_true_eq_false, not_false_eq_true, and_self, and_true, true_and, Bool.false_eq_true, Nat.reduceAdd, Nat.reduceMul, m_inl, m_at, m_lesser, m_isLink, m_areLinks, hi2, m_row R1, e1, e2, e_rd, m_isFlow R1 I hi2, L1 i hi2, fa_and, e3]
    by_cases c : gTh G i = true
    · rw [if_neg (not_not_intro c), ic (enc_m1 (v i) (fun x hx => bv i x hx))]
      obtain ⟨p1, p2, p3⟩ := path_and I hi2 c (fK G v)
      by_cases c2 : (v i).isNone = true
      · have hop : fOp G v i = true := by simp [fOp, c, c2]
        have fixed : fX G v i = true → ∃ h2, fX4_fix_c134 (fX4_fix_c75 j) (nI s) (nI i) (nI (gPath G i &&& mk (fK G v) 10)) h = fX4_fix_c217 1000 (nI s) 0 h2 ∧ PX G v k h0 h2 20 := by
          intro hx
          rw [m_fix_c134 hk hi2 p1 e1 P1]
          refine ih (i + 1) j _ (by omega) (by omega) ⟨?_, ?_, ?_, ?_, ?_⟩
          · rw [up_cell (by omega), up_cell (by omega), up_same, mk, if_pos hx]
          · intro cc h2 h3 h4
            rw [up_cell h3, up_cell h2, up_cell h4]
            exact P2 cc h2 h3 h4
          · intro jj h2
            rw [up_cell (by omega), up_cell (by omega), up_at, if_neg (by omega)]
            exact P3 jj h2
          · exact P4
          · intro f
            refine ⟨fun h2 h3 => ?_, fun h2 => ?_⟩
            · by_cases q : f = i
              · subst q
                refine ⟨?_, up_same⟩
                rw [up_cell (by omega), up_same, p3]
                rfl
              · rw [up_cell (by omega), up_at, if_neg (fun z => q z.2), up_cell (by omega), up_at, if_neg (fun z => q z.2), up_cell (by omega), up_cell (by omega)]
                exact (P5 f).1 (by omega) h3
            · have q : f ≠ i := fun e => by
                rcases h2 with z | z
                · omega
                · rw [e, hx] at z; cases z
              rw [up_cell (by omega), up_at, if_neg (fun z => q z.2), up_cell (by omega), up_at, if_neg (fun z => q z.2), up_cell (by omega), up_cell (by omega)]
              exact (P5 f).2 (h2.elim (fun z => Or.inl (by omega)) Or.inr)
        rw [if_pos c2, ic (e_eql (n := 0) (show gPath G i &&& mk (fK G v) 10 < 2147483648 by omega) (by decide))]
        by_cases c3 : gPath G i &&& mk (fK G v) 10 = 0
        · have hO := gOwn_le I hi2 c
          rw [if_pos c3, m_own R1 I hi2 c, e_bd, ic (e_eq (show gOwn G i < 2147483648 by omega) (show s < 2147483648 by omega))]
          have a0 := p2.mp c3
          by_cases c4 : gOwn G i = s
          · rw [if_pos c4]
            exact fixed (by simp [fX, hop, hs, c4])
          · rw [if_neg c4]
            exact ih (i + 1) j h (by omega) (by omega) (stay (by simp [fX, hop, a0, hs, c4]))
        · rw [if_neg c3]
          refine fixed ?_
          have a0 : an (fun l => (gPath G i).testBit l && fK G v l) 10 = true := by
            cases q : an (fun l => (gPath G i).testBit l && fK G v l) 10
            · exact absurd (p2.mpr q) c3
            · rfl
          simp [fX, hop, a0]
      · rw [if_neg c2]
        have c3 : (v i).isNone = false := by
          cases q : (v i).isNone
          · rfl
          · exact absurd q c2
        exact ih (i + 1) j h (by omega) (by omega) (stay (by simp [fX, fOp, c3]))
    · rw [if_pos c]
      exact ih (i + 1) j h (by omega) (by omega) (stay (by simp [fX, fOp, c]))
end
