/-! ===== letters: what they do to a state ===== -/
def enc : Option Nat → Int32
  | none => -1
  | some v => nI v
def IE (G : GR) : Prop := ∀ f, f < 20 → gTh G f = true → ∀ l, l < 10 → gAh G f l ≤ 1000000 ∧ gBh G f l ≤ 1000000
def gForth (G : GR) (f l u : Nat) : Option Nat × GR :=
  if 0 < G (13 + l) then (none, gu (gu (gu G (243 + 10 * f + l) u) (13 + l) (G (13 + l) - 1)) 2 (G 2 + 1)) else (some (min u (gAdv (gu G (243 + 10 * f + l) u) l)), gu G (243 + 10 * f + l) u)
def gBack (G : GR) (f l v : Nat) : Nat × GR := (min v (gAdv (gu G (443 + 10 * f + l) v) l), gu G (443 + 10 * f + l) v)
def gFw (f : Nat) : Nat → Nat → Nat → GR → Option Nat × GR
  | 0, _, u, G => (some u, G)
  | d + 1, l, u, G => if gOv G f l = true then (match gForth G f l u with
    | (none, G1) => (none, G1)
    | (some u1, G1) => gFw f d (l + 1) u1 G1) else gFw f d (l + 1) u G
def gBw (f : Nat) : Nat → Nat → GR → GR
  | 0, _, G => G
  | l + 1, v, G => if gOv G f l = true then gBw f l (gBack G f l v).1 (gBack G f l v).2 else gBw f l v G
def gFin (f : Nat) : Option Nat × GR → GR
  | (none, G1) => G1
  | (some u, G1) => gBw f 10 1000000 (gu G1 (23 + 11 * f + 7) u)
def gSend (G : GR) (f : Nat) : GR := gFin f (gFw f 10 0 (gOwn G f) (gu G 0 (G 0 + 1)))
/-- links and flows are the same -/
def SP (G G' : GR) : Prop := (∀ l, l < 10 → G' (3 + l) = G (3 + l)) ∧ ∀ f j, f < 20 → j ≤ 6 → G' (23 + 11 * f + j) = G (23 + 11 * f + j)
theorem SP.rf {G : GR} : SP G G := ⟨fun _ _ => rfl, fun _ _ _ _ => rfl⟩
theorem SP.tr {G G1 G2 : GR} (a : SP G G1) (b : SP G1 G2) : SP G G2 := ⟨fun l hl => (b.1 l hl).trans (a.1 l hl), fun f j hf hj => (b.2 f j hf hj).trans (a.2 f j hf hj)⟩
theorem SP.up {G : GR} {k v : Nat} (h : k < 3 ∨ (13 ≤ k ∧ k < 23) ∨ 243 ≤ k ∨ ∃ f j, k = 23 + 11 * f + j ∧ 7 ≤ j ∧ j ≤ 10) : SP G (gu G k v) := by
  refine ⟨fun l hl => ?_, fun f j hf hj => ?_⟩
  · unfold gu
    rw [if_neg (by rcases h with h | h | h | ⟨f, j, h1, h2, h3⟩ <;> omega)]
  · unfold gu
    rw [if_neg (by rcases h with h | h | h | ⟨f', j', h1, h2, h3⟩ <;> omega)]
section
variable {G G' : GR}
theorem SP.th (S : SP G G') {f : Nat} (hf : f < 20) : gTh G' f = gTh G f := by
  have := S.2 f 0 hf (by omega)
  unfold gTh
  rw [show 23 + 11 * f = 23 + 11 * f + 0 from rfl, this]
theorem SP.path (S : SP G G') {f : Nat} (hf : f < 20) : gPath G' f = gPath G f := S.2 f 2 hf (by omega)
theorem SP.wt (S : SP G G') {f : Nat} (hf : f < 20) : gWt G' f = gWt G f := S.2 f 3 hf (by omega)
theorem SP.least (S : SP G G') {f : Nat} (hf : f < 20) : gLeast G' f = gLeast G f := S.2 f 4 hf (by omega)
theorem SP.want (S : SP G G') {f : Nat} (hf : f < 20) : gWant G' f = gWant G f := S.2 f 5 hf (by omega)
theorem SP.cap (S : SP G G') {l : Nat} (hl : l < 10) : gCap G' l = gCap G l := S.1 l hl
theorem SP.ov (S : SP G G') {f l : Nat} (hf : f < 20) : gOv G' f l = gOv G f l := by unfold gOv; rw [S.th hf, S.path hf]
theorem SP.rate (S : SP G G') {f t : Nat} (hf : f < 20) : gRate G' f t = gRate G f t := by unfold gRate; rw [S.wt hf, S.least hf]
theorem SP.own (S : SP G G') {f : Nat} (hf : f < 20) : gOwn G' f = gOwn G f := by unfold gOwn; rw [S.wt hf, S.want hf]
theorem SP.bnd (S : SP G G') {l : Nat} : gBnd G' l = gBnd G l := fb_sm_cong (fun f hf => by rw [S.ov hf, S.least hf])
theorem SP.many (S : SP G G') : gMany G' = gMany G := fb_ct_cong (fun f hf => S.th hf)
theorem SP.IQ (S : SP G G') (I : IQ G) : IQ G' := by
  refine ⟨fun l hl => by rw [S.cap hl]; exact I.1 l hl, fun f hf => ⟨?_, fun h => ?_⟩⟩
  · have := S.2 f 0 hf (by omega)
    have h2 := (I.2 f hf).1
    rw [show 23 + 11 * f = 23 + 11 * f + 0 from rfl, this]
    exact h2
  · rw [S.th hf] at h
    rw [S.path hf, S.wt hf, S.least hf, S.want hf]
    exact (I.2 f hf).2 h
theorem SP.IB (S : SP G G') (I : IB G) : IB G' := fun l hl => by rw [S.bnd, S.cap hl]; exact I l hl
/-- no other number of what links know is above a million -/
theorem IE.up (E : IE G) {k v : Nat} (hS : SP G (gu G k v)) (hv : v ≤ 1000000 ∨ k < 243) : IE (gu G k v) := by
  intro f hf ht l hl
  rw [hS.th hf] at ht
  have h1 := E f hf ht l hl
  have a1 : gAh (gu G k v) f l = if 243 + 10 * f + l = k then v else gAh G f l := rfl
  have a2 : gBh (gu G k v) f l = if 443 + 10 * f + l = k then v else gBh G f l := rfl
  rw [a1, a2]
  constructor
  · split
    · rcases hv with z | z <;> omega
    · exact h1.1
  · split
    · rcases hv with z | z <;> omega
    · exact h1.2
end
section
variable {h : th_H} {G : GR}
theorem m_ratesBy (R : RM h G) (I : IQ G) (E : IE G) {l t : Nat} (hl : l < 10) (ht : t ≤ 1000001) : fX4_ratesBy (nI l) (nI t) h = some (lN (gS G l t), h) := by
  unfold fX4_ratesBy gS
  refine for_up 20 (fun fu i => fX4_ratesBy_c5 fu (nI l) (nI t) (lN (fb_sm (fun f => if gOv G f l = true then gRate G f (min t (gEls G f l)) else 0) i)) (nI i) h) _ ?_ ?_ (by omega)
  · intro fu i hi
    simp (disch := omega) only [fX4_ratesBy_c5, e_bd, e_st, e_addl, e_ladd, e_lmul, nI_add, nI_1, pk_mul, e_ltl, e_llt, e_eql, e_lt, e_eq, e_c0, e_c1, e_10, e_01, e_gb0, e_gb1, e_gbc, e_dv, ↓reduceIte, not_true_eq_false, not_false_eq_true, and_self, and_true, true_and, Bool.false_eq_true, Nat.reduceAdd, Nat.reduceMul, m_inl, m_at, m_lesser, m_isLink, m_areLinks, hi, m_goesOver R I hi hl, fb_sm_succ]
    by_cases c : gOv G i l = true
    · obtain ⟨c1, -⟩ := I.ov hi c
      obtain ⟨a, b⟩ := E i hi c1 l hl
      have e : gEls G i l ≤ 1000000 := by unfold gEls; omega
      have e2 := gRate_le I hi c1 (t := min t (gEls G i l)) (by omega)
      simp (disch := omega) only [c, e_bd, e_st, e_addl, e_ladd, e_lmul, nI_add, nI_1, pk_mul, e_ltl, e_llt, e_eql, e_lt, e_eq, e_c0, e_c1, e_10, e_01, e_gb0, e_gb1, e_gbc, e_dv, ↓reduceIte, not_true_eq_false, not_false_eq_true, and_self, and_true, true_and, Bool.false_eq_true, Nat.reduceAdd, Nat.reduceMul, m_inl, m_at, m_lesser, m_isLink, m_areLinks, m_elsewhere R hi hl (show gAh G i l < 2147483648 by omega) (show gBh G i l < 2147483648 by omega), m_rate R I hi c1, nI_l, lN_add]
    · simp only [c, not_false_eq_true, Bool.false_eq_true, ↓reduceIte]
      rw [show (0 : Int64) = lN 0 from rfl, lN_add]
  · intro fu
    simp (disch := omega) only [fX4_ratesBy_c5, e_bd, e_st, e_addl, e_ladd, e_lmul, nI_add, nI_1, pk_mul, e_ltl, e_llt, e_eql, e_lt, e_eq, e_c0, e_c1, e_10, e_01, e_gb0, e_gb1, e_gbc, e_dv, ↓reduceIte, not_true_eq_false, not_false_eq_true, and_self, and_true, true_and, Bool.false_eq_true, Nat.reduceAdd, Nat.reduceMul, m_inl, m_at, m_lesser, m_isLink, m_areLinks, Nat.lt_irrefl]
theorem m_advertises (R : RM h G) (I : IQ G) (B : IB G) (E : IE G) {l : Nat} (hl : l < 10) : fX4_advertises (nI l) h = some (nI (gAdv G l), h) := by
  unfold fX4_advertises gAdv
  have e : G (3 + l) = gCap G l := rfl
  have k2 := I.1 l hl
  have hS : ∀ t, t ≤ 1000001 → gS G l t < 2147483648 := fun t ht => by
    have := gS_le I (l := l) ht 20 (by omega)
    unfold gS
    omega
  refine bis0 (fun t => decide (gS G l t ≤ gCap G l)) ?_ ?_ (fun fu lo hi => fX4_advertises_c5 fu (nI l) (nI lo) (nI hi) h) (fun r => some (nI r, h)) ?_ ?_ ?_
  · intro a b hab hb
    have := gS_mono (G := G) (l := l) hab
    simp only [decide_eq_true_eq] at hb ⊢
    omega
  · rw [gS_0]
    simpa using B l hl
  · intro fu lo hi h1 h2 hp
    simp only [decide_eq_true_eq] at hp
    have hs := hS ((lo + hi) / 2) (by omega)
    simp (disch := omega) only [fX4_advertises_c5, e_bd, e_st, e_addl, e_ladd, e_lmul, nI_add, nI_1, pk_mul, e_ltl, e_llt, e_eql, e_lt, e_eq, e_c0, e_c1, e_10, e_01, e_gb0, e_gb1, e_gbc, e_dv, ↓reduceIte, not_true_eq_false, not_false_eq_true, and_self, and_true, true_and, Bool.false_eq_true, Nat.reduceAdd, Nat.reduceMul, m_inl, m_at, m_lesser, m_isLink, m_areLinks, pk_sub, e_divl, m_ratesBy R I E hl, m_row R, e, nI_l, m_gt, lN_lt]
    rw [if_pos (by omega), if_neg (by omega)]
  · intro fu lo hi h1 h2 hp
    simp only [decide_eq_false_iff_not] at hp
    have hs := hS ((lo + hi) / 2) (by omega)
    simp (disch := omega) only [fX4_advertises_c5, e_bd, e_st, e_addl, e_ladd, e_lmul, nI_add, nI_1, pk_mul, e_ltl, e_llt, e_eql, e_lt, e_eq, e_c0, e_c1, e_10, e_01, e_gb0, e_gb1, e_gbc, e_dv, ↓reduceIte, not_true_eq_false, not_false_eq_true, and_self, and_true, true_and, Bool.false_eq_true, Nat.reduceAdd, Nat.reduceMul, m_inl, m_at, m_lesser, m_isLink, m_areLinks, pk_sub, e_divl, m_ratesBy R I E hl, m_row R, e, nI_l, m_gt, lN_lt]
    rw [if_pos (by omega), if_pos (by omega)]
  · intro fu lo h1
    simp (disch := omega) only [fX4_advertises_c5, e_bd, e_st, e_addl, e_ladd, e_lmul, nI_add, nI_1, pk_mul, e_ltl, e_llt, e_eql, e_lt, e_eq, e_c0, e_c1, e_10, e_01, e_gb0, e_gb1, e_gbc, e_dv, ↓reduceIte, not_true_eq_false, not_false_eq_true, and_self, and_true, true_and, Bool.false_eq_true, Nat.reduceAdd, Nat.reduceMul, m_inl, m_at, m_lesser, m_isLink, m_areLinks, pk_sub]
    rw [if_neg (by omega)]
/-- only the row has changed -/
def MF (h h2 : th_H) (G : GR) : Prop := RM h2 G ∧ (∀ c, c ≠ 2 → h2.1 c = h.1 c) ∧ h2.2 = h.2
theorem MF.rf (R : RM h G) : MF h h G := ⟨R, fun _ _ => rfl, rfl⟩
theorem MF.up {h0 : th_H} (M : MF h0 h G) {k v : Nat} : MF h0 (th_up h 2 k (nI v)) (gu G k v) := ⟨M.1.up, fun c hc => by rw [up_cell hc]; exact M.2.1 c hc, M.2.2⟩
theorem MF.tr {h0 h1 : th_H} {G' : GR} (M : MF h0 h1 G) (N : MF h1 h G') : MF h0 h G' := ⟨N.1, fun c hc => (N.2.1 c hc).trans (M.2.1 c hc), N.2.2.trans M.2.2⟩
theorem m_wr {h0 : th_H} (M : MF h0 h G) {α : Type} {i v : Nat} {k : th_H → Option α} (hi : i < 643) : ∃ h2, th_wr h 2 643 (nI i) (nI v) k = k h2 ∧ MF h0 h2 (gu G i v) := ⟨_, e_wr hi (by omega), M.up⟩
theorem m_forth (R : RM h G) (I : IQ G) (B : IB G) (E : IE G) {f l u : Nat} (hf : f < 20) (hl : l < 10) (hu : u ≤ 1000000) (hL : G (13 + l) ≤ 99) : ∃ h2, fX4_forth (nI f) (nI l) (nI u) h = some (enc (gForth G f l u).1, h2) ∧ MF h h2 (gForth G f l u).2 := by
  unfold fX4_forth gForth
  have M := MF.rf R
  have e0 : (243 : Int32) + 10 * nI f + nI l = nI (243 + 10 * f + l) := by simp only [e_lmul, e_ladd, nI_add]
  rw [e0]
  obtain ⟨h1, q1, M1⟩ := m_wr M (i := 243 + 10 * f + l) (v := u) (k := fun h1 => th_rd h1 2 643 ((13 : Int32) + nI l) fun v2 =>
    if (0 < v2 : Prop) then
      th_rd h1 2 643 ((13 : Int32) + nI l) fun v4 =>
      th_wr h1 2 643 ((13 : Int32) + nI l) (v4 - 1) fun h5 =>
      th_rd h5 2 643 2 fun v6 =>
      th_wr h5 2 643 2 (v6 + 1) fun h7 =>
      some ((-1), h7)
    else
      th_bd (fX4_advertises (nI l) h1) fun u8 h8 =>
      th_bd (fX4_lesser (nI u) u8 h8) fun u9 h9 =>
      some (u9, h9)) (by omega)
  rw [q1]
  have e1 : gu G (243 + 10 * f + l) u (13 + l) = G (13 + l) := by unfold gu; rw [if_neg (by omega)]
  have hS : SP G (gu G (243 + 10 * f + l) u) := SP.up (Or.inr (Or.inr (Or.inl (by omega))))
  simp (disch := omega) only [e_bd, e_st, e_addl, e_ladd, e_lmul, nI_add, nI_1, pk_mul, e_ltl, e_llt, e_eql, e_lt, e_eq, e_c0, e_c1, e_10, e_01, e_gb0, e_gb1, e_gbc, e_dv, ↓reduceIte, not_true_eq_false, not_false_eq_true, and_self, and_true, true_and, Bool.false_eq_true, Nat.reduceAdd, Nat.reduceMul, m_inl, m_at, m_lesser, m_isLink, m_areLinks, m_row M1.1, e1]
  by_cases c : 0 < G (13 + l)
  · rw [if_pos c, if_pos c, e_subl (show 1 ≤ G (13 + l) by omega)]
    obtain ⟨h2, q2, M2⟩ := m_wr M1 (i := 13 + l) (v := G (13 + l) - 1) (k := fun h5 => th_rd h5 2 643 2 fun v6 => th_wr h5 2 643 2 (v6 + 1) fun h7 => some ((-1 : Int32), h7)) (by omega)
    rw [q2, show (2 : Int32) = nI 2 from rfl, m_row M2.1 (by omega), nI_1]
    have e2 : gu (gu G (243 + 10 * f + l) u) (13 + l) (G (13 + l) - 1) 2 = G 2 := by unfold gu; rw [if_neg (by omega), if_neg (by omega)]
    rw [e2]
    obtain ⟨h3, q3, M3⟩ := m_wr M2 (i := 2) (v := G 2 + 1) (k := fun h7 => some ((-1 : Int32), h7)) (by omega)
    exact ⟨h3, q3, M3⟩
  · rw [if_neg c, if_neg c, m_advertises M1.1 (hS.IQ I) (hS.IB B) (E.up hS (Or.inl hu)) hl, e_bd, m_lesser (by omega) (by have := gl_le (fun t => decide (gS (gu G (243 + 10 * f + l) u) l t ≤ gCap (gu G (243 + 10 * f + l) u) l)); unfold gAdv; omega), e_bd]
    exact ⟨h1, rfl, M1⟩
theorem m_backTo (R : RM h G) (I : IQ G) (B : IB G) (E : IE G) {f l u : Nat} (hf : f < 20) (hl : l < 10) (hu : u ≤ 1000000) : ∃ h2, fX4_backTo (nI f) (nI l) (nI u) h = some (nI (gBack G f l u).1, h2) ∧ MF h h2 (gBack G f l u).2 := by
  unfold fX4_backTo gBack
  have M := MF.rf R
  have e0 : (443 : Int32) + 10 * nI f + nI l = nI (443 + 10 * f + l) := by simp only [e_lmul, e_ladd, nI_add]
  rw [e0]
  obtain ⟨h1, q1, M1⟩ := m_wr M (i := 443 + 10 * f + l) (v := u) (k := fun h1 => th_bd (fX4_advertises (nI l) h1) fun u2 h2 => th_bd (fX4_lesser (nI u) u2 h2) fun u3 h3 => some (u3, h3)) (by omega)
  rw [q1]
  have hS : SP G (gu G (443 + 10 * f + l) u) := SP.up (Or.inr (Or.inr (Or.inl (by omega))))
  rw [m_advertises M1.1 (hS.IQ I) (hS.IB B) (E.up hS (Or.inl hu)) hl, e_bd, m_lesser (by omega) (by have := gl_le (fun t => decide (gS (gu G (443 + 10 * f + l) u) l t ≤ gCap (gu G (443 + 10 * f + l) u) l)); unfold gAdv; omega), e_bd]
  exact ⟨h1, rfl, M1⟩
end
