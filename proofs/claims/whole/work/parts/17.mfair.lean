/-! ===== FAIR of the reference ===== -/
def BV (v : LV) : Prop := ∀ f x, v f = some x → x ≤ 1000000
def LVL (h : th_H) (v : LV) : Prop := ∀ f, f < 20 → h.1 7 f = enc (v f)
theorem enc_m1 (o : Option Nat) (hb : ∀ x, o = some x → x ≤ 1000000) : (enc o = -1) = (o.isNone = true) := by
  cases o with
  | none => simp [enc]
  | some x =>
    have := hb x rfl
    show (nI x = -1) = _
    rw [e_ne1 (by omega)]
    simp
theorem enc_eq (o : Option Nat) (hb : ∀ x, o = some x → x ≤ 1000000) {s : Nat} (hs : s ≤ 1000000) : (enc o = nI s) = (o = some s) := by
  cases o with
  | none =>
    show (-1 = nI s) = _
    rw [e_1n (by omega)]
    simp
  | some x =>
    have := hb x rfl
    show (nI x = nI s) = _
    rw [e_eq (by omega) (by omega)]
    simp
section
variable {h : th_H} {G : GR} {v : LV}
theorem m_lv (L : LVL h v) {α : Type} {f : Nat} {k : Int32 → Option α} (hf : f < 20) : th_rd h 7 20 (nI f) k = k (enc (v f)) := by
  rw [e_rd hf (by omega), L f hf]
theorem fW_bound (I : IQ G) (bv : BV v) {l t : Nat} (ht : t ≤ 1000001) (n : Nat) (hn : n ≤ 20) : fb_sm (fun f => if gOv G f l = true then gRate G f ((v f).getD t) else 0) n ≤ n * 9000009 := by
  refine fb_sm_bound (fun f hf => ?_)
  by_cases c : gOv G f l = true
  · simp only [if_pos c]
    refine gRate_le I (by omega) (I.ov (by omega) c).1 ?_
    cases q : v f with
    | none => exact ht
    | some x => have := bv f x q; simp only [Option.getD_some]; omega
  · simp only [if_neg c]
    omega
theorem m_waterBy (R : RM h G) (I : IQ G) (L : LVL h v) (bv : BV v) {l t : Nat} (hl : l < 10) (ht : t ≤ 1000001) : fX4_waterBy (nI l) (nI t) h = some (lN (fW G v l t), h) := by
  unfold fX4_waterBy fW
  refine for_up 20 (fun fu i => fX4_waterBy_c5 fu (nI l) (nI t) (lN (fb_sm (fun f => if gOv G f l = true then gRate G f ((v f).getD t) else 0) i)) (nI i) h) _ ?_ ?_ (by omega)
  · intro fu i hi
    simp (disch := omega) only [fX4_waterBy_c5, e_bd, e_st, e_addl, e_ladd, e_lmul, nI_add, nI_1, pk_mul, e_ltl, e_llt, e_eql, e_lt, e_eq, e_c0, e_c1, e_10, e_01, e_gb0, e_gb1, e_gbc, e_dv, ↓reduceIte, not_true_eq_false, not_false_eq_true, and_self, and_true, true_and, Bool.false_eq_true, Nat.reduceAdd, Nat.reduceMul, m_inl, m_at, m_lesser, m_isLink, m_areLinks, hi, m_goesOver R I hi hl, fb_sm_succ]
    by_cases c : gOv G i l = true
    · obtain ⟨c1, -⟩ := I.ov hi c
      cases q : v i with
      | none =>
        have e2 := gRate_le I hi c1 (t := t) (by omega)
        have e3 : enc (v i) = -1 := by rw [q]; rfl
        simp (disch := omega) only [c, e_bd, e_st, e_addl, e_ladd, e_lmul, nI_add, nI_1, pk_mul, e_ltl, e_llt, e_eql, e_lt, e_eq, e_c0, e_c1, e_10, e_01, e_gb0, e_gb1, e_gbc, e_dv, ↓reduceIte, not_true_eq_false, not_false_eq_true, and_self, and_true, true_and, Bool.false_eq_true, Nat.reduceAdd, Nat.reduceMul, m_inl, m_at, m_lesser, m_isLink, m_areLinks, m_lv L hi, e3, m_rate R I hi c1, nI_l, lN_add, Option.getD_none]
      | some x =>
        have hx := bv i x q
        have e2 := gRate_le I hi c1 (t := x) (by omega)
        have e3 : enc (v i) = nI x := by rw [q]; rfl
        simp (disch := omega) only [c, e_bd, e_st, e_addl, e_ladd, e_lmul, nI_add, nI_1, pk_mul, e_ltl, e_llt, e_eql, e_lt, e_eq, e_c0, e_c1, e_10, e_01, e_gb0, e_gb1, e_gbc, e_dv, ↓reduceIte, not_true_eq_false, not_false_eq_true, and_self, and_true, true_and, Bool.false_eq_true, Nat.reduceAdd, Nat.reduceMul, m_inl, m_at, m_lesser, m_isLink, m_areLinks, m_lv L hi, e3, e_ne1, m_rate R I hi c1, nI_l, lN_add, Option.getD_some]
    · simp only [c, not_false_eq_true, Bool.false_eq_true, ↓reduceIte]
      rw [show (0 : Int64) = lN 0 from rfl, lN_add]
  · intro fu
    simp (disch := omega) only [fX4_waterBy_c5, e_bd, e_st, e_addl, e_ladd, e_lmul, nI_add, nI_1, pk_mul, e_ltl, e_llt, e_eql, e_lt, e_eq, e_c0, e_c1, e_10, e_01, e_gb0, e_gb1, e_gbc, e_dv, ↓reduceIte, not_true_eq_false, not_false_eq_true, and_self, and_true, true_and, Bool.false_eq_true, Nat.reduceAdd, Nat.reduceMul, m_inl, m_at, m_lesser, m_isLink, m_areLinks, Nat.lt_irrefl]
theorem m_tideOf (R : RM h G) (I : IQ G) (L : LVL h v) (bv : BV v) (J : J0 G v) {l : Nat} (hl : l < 10) : fX4_tideOf (nI l) h = some (nI (fT G v l), h) := by
  unfold fX4_tideOf fT
  have e : G (3 + l) = gCap G l := rfl
  have k2 := I.1 l hl
  have hS : ∀ t, t ≤ 1000001 → fW G v l t < 2147483648 := fun t ht => by
    have := fW_bound I bv (l := l) ht 20 (by omega)
    unfold fW
    omega
  refine bis0 (fun t => decide (fW G v l t ≤ gCap G l)) (fT_anti l) (by simpa using J l hl) (fun fu lo hi => fX4_tideOf_c5 fu (nI l) (nI lo) (nI hi) h) (fun r => some (nI r, h)) ?_ ?_ ?_
  · intro fu lo hi h1 h2 hp
    simp only [decide_eq_true_eq] at hp
    have hs := hS ((lo + hi) / 2) (by omega)
    simp (disch := omega) only [fX4_tideOf_c5, e_bd, e_st, e_addl, e_ladd, e_lmul, nI_add, nI_1, pk_mul, e_ltl, e_llt, e_eql, e_lt, e_eq, e_c0, e_c1, e_10, e_01, e_gb0, e_gb1, e_gbc, e_dv, ↓reduceIte, not_true_eq_false, not_false_eq_true, and_self, and_true, true_and, Bool.false_eq_true, Nat.reduceAdd, Nat.reduceMul, m_inl, m_at, m_lesser, m_isLink, m_areLinks, pk_sub, e_divl, m_waterBy R I L bv hl, m_row R, e, nI_l, m_gt, lN_lt]
    rw [if_pos (by omega), if_neg (by omega)]
  · intro fu lo hi h1 h2 hp
    simp only [decide_eq_false_iff_not] at hp
    have hs := hS ((lo + hi) / 2) (by omega)
    simp (disch := omega) only [fX4_tideOf_c5, e_bd, e_st, e_addl, e_ladd, e_lmul, nI_add, nI_1, pk_mul, e_ltl, e_llt, e_eql, e_lt, e_eq, e_c0, e_c1, e_10, e_01, e_gb0, e_gb1, e_gbc, e_dv, ↓reduceIte, not_true_eq_false, not_false_eq_true, and_self, and_true, true_and, Bool.false_eq_true, Nat.reduceAdd, Nat.reduceMul, m_inl, m_at, m_lesser, m_isLink, m_areLinks, pk_sub, e_divl, m_waterBy R I L bv hl, m_row R, e, nI_l, m_gt, lN_lt]
    rw [if_pos (by omega), if_pos (by omega)]
  · intro fu lo h1
    simp (disch := omega) only [fX4_tideOf_c5, e_bd, e_st, e_addl, e_ladd, e_lmul, nI_add, nI_1, pk_mul, e_ltl, e_llt, e_eql, e_lt, e_eq, e_c0, e_c1, e_10, e_01, e_gb0, e_gb1, e_gbc, e_dv, ↓reduceIte, not_true_eq_false, not_false_eq_true, and_self, and_true, true_and, Bool.false_eq_true, Nat.reduceAdd, Nat.reduceMul, m_inl, m_at, m_lesser, m_isLink, m_areLinks, pk_sub]
    rw [if_neg (by omega)]
theorem m_isOpen (R : RM h G) (I : IQ G) (L : LVL h v) (bv : BV v) {l : Nat} (hl : l < 10) : fX4_isOpen (nI l) h = some (bI (fOpL G v l), h) := by
  unfold fX4_isOpen fOpL
  refine for_up 20 (fun fu i => fX4_isOpen_c4 fu (nI l) (bI (an (fun f => gOv G f l && (v f).isNone) i)) (nI i) h) _ ?_ ?_ (by omega)
  · intro fu i hi
    simp (disch := omega) only [fX4_isOpen_c4, e_bd, e_st, e_addl, e_ladd, e_lmul, nI_add, nI_1, pk_mul, e_ltl, e_llt, e_eql, e_lt, e_eq, e_c0, e_c1, e_10, e_01, e_gb0, e_gb1, e_gbc, e_dv, ↓reduceIte, not_true_eq_false, not_false_eq_true, and_self, and_true, true_and, Bool.false_eq_true, Nat.reduceAdd, Nat.reduceMul, m_inl, m_at, m_lesser, m_isLink, m_areLinks, hi, m_goesOver R I hi hl, an, bI_0, m_lv L hi]
    cases c : an (fun f => gOv G f l && (v f).isNone) i
    · rw [if_pos rfl, Bool.false_or, ic (enc_m1 (v i) (fun x hx => bv i x hx))]
      cases c1 : gOv G i l
      · simp [bI]
      · cases c2 : (v i).isNone
        · simp [bI]
        · simp [bI]
    · simp [bI]
  · intro fu
    simp (disch := omega) only [fX4_isOpen_c4, e_bd, e_st, e_addl, e_ladd, e_lmul, nI_add, nI_1, pk_mul, e_ltl, e_llt, e_eql, e_lt, e_eq, e_c0, e_c1, e_10, e_01, e_gb0, e_gb1, e_gbc, e_dv, ↓reduceIte, not_true_eq_false, not_false_eq_true, and_self, and_true, true_and, Bool.false_eq_true, Nat.reduceAdd, Nat.reduceMul, m_inl, m_at, m_lesser, m_isLink, m_areLinks, Nat.lt_irrefl, bI_gb]
/-- what FAIR may write -/
def MZ (h h2 : th_H) : Prop := (∀ c, c ≠ 0 → (c < 7 ∨ 13 < c) → h2.1 c = h.1 c) ∧ (∀ j, j ≠ 13 → h2.1 0 j = h.1 0 j) ∧ h2.2 = h.2
theorem MZ.rf : MZ h h := ⟨fun _ _ _ => rfl, fun _ _ => rfl, rfl⟩
theorem MZ.tr {h1 h2 : th_H} (a : MZ h h1) (b : MZ h1 h2) : MZ h h2 := ⟨fun c x y => (b.1 c x y).trans (a.1 c x y), fun j x => (b.2.1 j x).trans (a.2.1 j x), b.2.2.trans a.2.2⟩
theorem MZ.up {h1 : th_H} (a : MZ h h1) {c k : Nat} {x : Int32} (hc : 7 ≤ c) (hc2 : c ≤ 13) : MZ h (th_up h1 c k x) := ⟨fun d y z => by rw [up_cell (by omega)]; exact a.1 d y z, fun j y => by rw [up_cell (by omega)]; exact a.2.1 j y, a.2.2⟩
theorem MZ.row {h1 : th_H} (a : MZ h h1) (R : RM h G) : RM h1 G := R.off (a.1 2 (by omega) (by omega))
theorem MZ.st {h1 : th_H} (a : MZ h h1) {x : Int32} : MZ h (th_up h1 0 13 x) := ⟨fun d y z => by rw [up_cell y]; exact a.1 d y z, fun j y => by rw [up_at, if_neg (by omega)]; exact a.2.1 j y, a.2.2⟩
end
