/-! ===== a letter and a round of the class ===== -/
section
variable {q : Nat} {h h2 : th_H} {G G' : GR}
/-- what a letter may be lost by -/
theorem RQ.lose (R : RQ q h G) {l u v : Nat} (hl : l < 10) {h3 : th_H} (Z : PZ q h h3) (e12 : h3.1 (q + 12) = (th_up h (q + 12) l (nI u)).1 (q + 12)) (eo : ∀ c, q + 9 ≤ c → c ≤ q + 15 → c ≠ q + 12 → h3.1 c = h.1 c) (e11 : h3.1 q 11 = nI v) (eq : ∀ j, j ≤ 10 → h3.1 q j = h.1 q j) : RQ q h3 (gu (gu G (13 + l) u) 2 v) := by
  have S1 : SP G (gu G (13 + l) u) := SP.up (Or.inr (Or.inl (by omega)))
  have S2 : SP (gu G (13 + l) u) (gu (gu G (13 + l) u) 2 v) := SP.up (Or.inl (by omega))
  obtain ⟨a, b, c, d, e, g, i, j, k⟩ := R
  have ne : ∀ m, m ≠ 2 → m ≠ 13 + l → gu (gu G (13 + l) u) 2 v m = G m := fun m x y => by rw [gu_ne x, gu_ne y]
  refine RQ.re ⟨a, b, c, d, e, g, i, j, k⟩ (S1.tr S2) Z (fun l' hl' => ?_) (fun f' hf' ht' => ?_) (fun f' hf' ht' => ?_) (eq 8 (by omega)) ?_ ?_ ?_
  · show _ = nI (gu _ 2 v (13 + l'))
    rw [gu_ne (by omega), e12, up_at]
    by_cases z : l' = l
    · rw [if_pos ⟨rfl, z⟩, z, gu_eq]
    · rw [if_neg (fun y => z y.2), gu_ne (by omega)]
      exact c l' hl'
  · obtain ⟨d1, d2, d3, d4⟩ := d f' hf' ht'
    have g1 : gTold (gu (gu G (13 + l) u) 2 v) f' = gTold G f' := ne _ (by omega) (by omega)
    have g2 : gWay (gu (gu G (13 + l) u) 2 v) f' = gWay G f' := ne _ (by omega) (by omega)
    have g3 : gWl (gu (gu G (13 + l) u) 2 v) f' = gWl G f' := ne _ (by omega) (by omega)
    have g4 : gWh (gu (gu G (13 + l) u) 2 v) f' = gWh G f' := ne _ (by omega) (by omega)
    rw [eo (q + 11) (by omega) (by omega) (by omega), eo (q + 13) (by omega) (by omega) (by omega), eo (q + 14) (by omega) (by omega) (by omega), eo (q + 15) (by omega) (by omega) (by omega), eo (q + 9) (by omega) (by omega) (by omega), eo (q + 10) (by omega) (by omega) (by omega), g1, g2, g3, g4]
    refine ⟨d1, d2, d3, fun l' hl' => ⟨?_, ?_⟩⟩
    · rw [(d4 l' hl').1]
      exact congrArg nI (ne (243 + 10 * f' + l') (by omega) (by omega)).symm
    · rw [(d4 l' hl').2]
      exact congrArg nI (ne (443 + 10 * f' + l') (by omega) (by omega)).symm
  · rw [eo (q + 11) (by omega) (by omega) (by omega), eo (q + 13) (by omega) (by omega) (by omega), eo (q + 9) (by omega) (by omega) (by omega), eo (q + 10) (by omega) (by omega) (by omega)]
    exact e f' hf' ht'
  · rw [eq 9 (by omega), i, ne 0 (by omega) (by omega)]
  · rw [eq 10 (by omega), j, ne 1 (by omega) (by omega)]
  · rw [e11, gu_eq]
theorem c_isLostAt (R : RQ q h G) (A : IA G) (O : OC q h G) {l : Nat} (hl : l < 10) : ∃ h2, fX1_isLostAt q (nI l) h = some (if 0 < G (13 + l) then 1 else 0, h2) ∧ RQ q h2 (if 0 < G (13 + l) then gu (gu G (13 + l) (G (13 + l) - 1)) 2 (G 2 + 1) else G) ∧ OC q h2 (if 0 < G (13 + l) then gu (gu G (13 + l) (G (13 + l) - 1)) 2 (G 2 + 1) else G) ∧ PZ q h h2 ∧ h2.1 q 15 = h.1 q 15 := by
  have h0 := A.2.2.2.1 l hl
  have e12 : h.1 (q + 12) l = nI (G (13 + l)) := R.2.2.1 l hl
  unfold fX1_isLostAt
  rw [e_rd hl (by omega), e12, ic (e_ltl (n := 1) (show G (13 + l) < 2147483648 by omega) (by decide))]
  by_cases c : 0 < G (13 + l)
  · have c2 : ¬ G (13 + l) < (OfNat.ofNat 1 : Nat) := fun z => by have : G (13 + l) < 1 := z; omega
    rw [if_neg c2, if_pos c, if_pos c, e_rd hl (by omega), e12, e_subl (show 1 ≤ G (13 + l) by omega), e_wr hl (by omega), e_st, up_cell (by omega), R.2.2.2.2.2.2.2.2, nI_1]
    have Z : PZ q h (th_up (th_up h (q + 12) l (nI (G (13 + l) - 1))) q 11 (nI (G 2 + 1))) := (PZ.rf.up (by omega)).up (Or.inl rfl)
    refine ⟨_, rfl, R.lose hl Z ?_ (fun cc x y z => ?_) up_same (fun j hj => ?_), O.keep ?_ ?_ ?_ (fun l' hl' => ?_), Z, ?_⟩
    · rw [up_cell (by omega)]
    · rw [up_cell (by omega), up_cell z]
    · rw [up_at, if_neg (by omega), up_cell (by omega)]
    · rw [up_at, if_neg (by omega), up_cell (by omega)]
    · rw [up_cell (by omega), up_cell (by omega)]
    · rw [up_cell (by omega), up_cell (by omega)]
    · rw [gAdv_other (Or.inr (Or.inr (Or.inl (by omega)))) hl', gAdv_other (Or.inr (Or.inr (Or.inr (Or.inl (by omega))))) hl']
    · rw [up_at, if_neg (by omega), up_cell (by omega)]
  · have c2 : G (13 + l) < (OfNat.ofNat 1 : Nat) := show G (13 + l) < 1 by omega
    rw [if_pos c2, if_neg c, if_neg c]
    exact ⟨h, rfl, R, O, PZ.rf, rfl⟩
/-- the numbers that a round looks at -/
def LT (k : Nat) : Prop := (243 ≤ k ∧ k < 643) ∨ ∃ f, f < 20 ∧ k = 23 + 11 * f + 7
def SM (G0 G : GR) : Prop := ∀ k, LT k → G k = G0 k
theorem SM_up {G0 : GR} {k v : Nat} (hk : LT k) (e : G k = G0 k) : SM G0 (gu G k v) ↔ SM G0 G ∧ G k = v := by
  constructor
  · intro h1
    refine ⟨fun j hj => ?_, ?_⟩
    · by_cases c : j = k
      · rw [c]; exact e
      · have := h1 j hj
        rw [gu_ne c] at this
        exact this
    · have := h1 k hk
      rw [gu_eq] at this
      rw [e, this]
  · rintro ⟨h1, h2⟩
    rw [gu_same h2]
    exact h1
theorem SM_off {G0 : GR} {k v : Nat} (hk : ¬ LT k) : SM G0 (gu G k v) ↔ SM G0 G := by
  constructor
  · intro h1 j hj
    have := h1 j hj
    rw [gu_ne (show j ≠ k from fun e => hk (by rw [← e]; exact hj))] at this
    exact this
  · intro h1 j hj
    rw [gu_ne (show j ≠ k from fun e => hk (by rw [← e]; exact hj))]
    exact h1 j hj
theorem SM_quiet {G0 : GR} : gQuiet G0 G = true ↔ SM G0 G := by
  unfold gQuiet
  rw [Bool.and_eq_true, al_iff, al_iff]
  constructor
  · rintro ⟨h1, h2⟩ k (⟨a, b⟩ | ⟨f, hf, rfl⟩)
    · have := h1 (k - 243) (by omega)
      rw [show 243 + (k - 243) = k by omega] at this
      exact (beq_iff_eq.mp this).symm
    · exact (beq_iff_eq.mp (h2 f hf)).symm
  · intro h1
    exact ⟨fun k hk => beq_iff_eq.mpr (h1 (243 + k) (Or.inl (by omega))).symm, fun f hf => beq_iff_eq.mpr (h1 _ (Or.inr ⟨f, hf, rfl⟩)).symm⟩
/-- stirred is told just where a number is another one -/
def STR (q : Nat) (h : th_H) (G0 G : GR) : Prop := True ∧ (h.1 q 15 = 0 ↔ SM G0 G)
theorem STR.up {G0 : GR} (T : STR q h G0 G) {k v : Nat} (hk : LT k) (e : G k = G0 k) (es : h2.1 q 15 = stir (G k = v) (h.1 q 15)) : STR q h2 G0 (gu G k v) := by
  unfold STR
  rw [es, SM_up hk e]
  unfold stir
  by_cases c : G k = v
  · rw [if_pos c]
    exact ⟨T.1, ⟨fun z => ⟨T.2.mp z, c⟩, fun z => T.2.mpr z.1⟩⟩
  · rw [if_neg c]
    exact ⟨trivial, ⟨fun z => absurd z (by decide), fun z => absurd z.2 c⟩⟩
theorem STR.off {G0 : GR} (T : STR q h G0 G) {k v : Nat} (hk : ¬ LT k) (es : h2.1 q 15 = h.1 q 15) : STR q h2 G0 (gu G k v) := by
  unfold STR
  rw [es, SM_off hk]
  exact T
theorem STR.keep {G0 : GR} (T : STR q h G0 G) (es : h2.1 q 15 = h.1 q 15) : STR q h2 G0 G := by
  unfold STR
  rw [es]
  exact T
/-- all at once -/
def CP (q : Nat) (h0 h : th_H) (G0 G : GR) : Prop := RQ q h G ∧ OC q h G ∧ PZ q h0 h ∧ STR q h G0 G
theorem notLT_small {k : Nat} (h : k < 23) : ¬ LT k := by
  rintro (⟨a, b⟩ | ⟨f, hf, e⟩) <;> omega
/-- what a flow's letter has still to write is as it was -/
def FreshF (G0 G : GR) (f l : Nat) : Prop := (∀ j, l ≤ j → j < 10 → G (243 + 10 * f + j) = G0 (243 + 10 * f + j)) ∧ G (23 + 11 * f + 7) = G0 (23 + 11 * f + 7) ∧ ∀ j, j < 10 → G (443 + 10 * f + j) = G0 (443 + 10 * f + j)
theorem c_send_c84 {G0 : GR} {h0 : th_H} {f : Nat} (hf : f < 20) : ∀ l fu v h (G : GR), l ≤ 10 → l < fu → CP q h0 h G0 G → IA G → gTh G f = true → v ≤ 1000000 → (∀ j, j < l → G (443 + 10 * f + j) = G0 (443 + 10 * f + j)) → ∃ h2, fX1_send_c84 q fu (nI f) (nI v) (nI l + (-1)) h = some ((), h2) ∧ CP q h0 h2 G0 (gBw f l v G) := by
  intro l
  induction l with
  | zero =>
    intro fu v h G _ hfu C A ht hv F
    obtain ⟨k, rfl⟩ : ∃ k, fu = k + 1 := ⟨fu - 1, by omega⟩
    exact ⟨h, by rw [fX1_send_c84, if_pos (by decide)], C⟩
  | succ l ih =>
    intro fu v h G hl hfu C A ht hv F
    obtain ⟨k, rfl⟩ : ∃ k, fu = k + 1 := ⟨fu - 1, by omega⟩
    have hl2 : l < 10 := by omega
    rw [pk_m1, fX1_send_c84, if_neg (nI_pos (by omega)), c_goesOver C.1.1 A.1 hf hl2, e_bd, ic e_c0]
    by_cases c : gOv G f l = true
    · have e : gBw f (l + 1) v G = gBw f l (gBack G f l v).1 (gBack G f l v).2 := by rw [gBw, if_pos c]
      rw [if_neg (not_not_intro c), e]
      obtain ⟨A1, S1, b1⟩ := gBack_ok A hf hl2 hv
      obtain ⟨h1, q1, R1, O1, Z1, s1⟩ := c_tellBehind C.1 A C.2.1 hf hl2 ht hv
      obtain ⟨h2, q2, P2, O2⟩ := c_offerOf R1 A1 O1 hl2
      have hA := gAdv_le (gu G (443 + 10 * f + l) v) l
      rw [q1, e_bd, q2, e_bd, e_mn (by omega) (by omega)]
      have T1 : STR q h1 G0 (gu G (443 + 10 * f + l) v) := C.2.2.2.up (Or.inl (by omega)) (F l (by omega)) s1
      refine ih k _ h2 _ (by omega) (by omega) ⟨P2.rq R1, O2, C.2.2.1.tr (Z1.tr P2.pz), T1.keep (P2.2.1 15 (by omega))⟩ A1 (by rw [S1.th hf]; exact ht) b1 (fun j hj => ?_)
      show gu G _ v _ = _
      rw [gu_ne (by omega)]
      exact F j (by omega)
    · have e : gBw f (l + 1) v G = gBw f l v G := by rw [gBw, if_neg c]
      rw [if_pos c, e]
      exact ih k v h G (by omega) (by omega) C A ht hv (fun j hj => F j (by omega))
theorem c_send_c21 {G0 : GR} {h0 : th_H} {f : Nat} (hf : f < 20) : ∀ d l fu u h (G : GR), l + d = 10 → d < fu → CP q h0 h G0 G → IA G → gTh G f = true → u ≤ 1000000 → FreshF G0 G f l → ∃ h2, fX1_send_c21 q fu (nI f) (nI u) (nI l) h = some ((), h2) ∧ CP q h0 h2 G0 (gFin f (gFw f d l u G)) := by
  intro d
  induction d with
  | zero =>
    intro l fu u h G hl hfu C A ht hu F
    obtain ⟨k, rfl⟩ : ∃ k, fu = k + 1 := ⟨fu - 1, by omega⟩
    rw [show l = 10 by omega, fX1_send_c21, if_neg (by decide)]
    obtain ⟨h1, q1, R1, O1, Z1, s1⟩ := c_tell C.1 C.2.1 (fun f hf _ => A.2.2.2.2 _ (by omega) (by omega)) hf ht hu
    rw [q1, e_bd]
    obtain ⟨A1, S1⟩ := A.up (k := 23 + 11 * f + 7) (v := u) (Or.inr (Or.inr (Or.inr ⟨f, 7, rfl, by omega, by omega⟩))) (Or.inl hu) (by omega)
    have T1 : STR q h1 G0 (gu G (23 + 11 * f + 7) u) := C.2.2.2.up (Or.inr ⟨f, hf, rfl⟩) F.2.1 s1
    obtain ⟨h2, q2, C2⟩ := c_send_c84 hf 10 1000 1000000 h1 _ (by omega) (by omega) ⟨R1, O1, C.2.2.1.tr Z1, T1⟩ A1 (by rw [S1.th hf]; exact ht) (by omega) (fun j hj => by rw [gu_ne (by omega)]; exact F.2.2 j hj)
    exact ⟨h2, q2, C2⟩
  | succ d ih =>
    intro l fu u h G hl hfu C A ht hu F
    obtain ⟨k, rfl⟩ : ∃ k, fu = k + 1 := ⟨fu - 1, by omega⟩
    have hl2 : l < 10 := by omega
    rw [fX1_send_c21, if_pos (show nI l < (10 : Int32) from nI_lt (a := l) (b := 10) (by omega) (by omega)), c_goesOver C.1.1 A.1 hf hl2, e_bd, ic e_c0]
    by_cases c : gOv G f l = true
    · obtain ⟨h1, q1, R1, O1, Z1, s1⟩ := c_tellAhead C.1 A C.2.1 hf hl2 ht hu
      obtain ⟨A1, S1⟩ := A.up (k := 243 + 10 * f + l) (v := u) (Or.inr (Or.inr (Or.inl (by omega)))) (Or.inl hu) (by omega)
      have T1 : STR q h1 G0 (gu G (243 + 10 * f + l) u) := C.2.2.2.up (Or.inl (by omega)) (F.1 l (by omega) hl2) s1
      have e13 : gu G (243 + 10 * f + l) u (13 + l) = G (13 + l) := gu_ne (by omega)
      have e2 : gu G (243 + 10 * f + l) u 2 = G 2 := gu_ne (by omega)
      obtain ⟨h2, q2, R2, O2, Z2, s2⟩ := c_isLostAt R1 A1 O1 hl2
      rw [e13] at q2
      rw [e13, e2] at R2 O2
      have e : gFw f (d + 1) l u G = (match gForth G f l u with
        | (none, G1) => (none, G1)
        | (some u1, G1) => gFw f d (l + 1) u1 G1) := by
        rw [gFw, if_pos c]
        rfl
      rw [if_neg (not_not_intro c), q1, e_bd, q2, e_bd, e]
      unfold gForth
      by_cases c3 : 0 < G (13 + l)
      · rw [if_pos c3] at R2 O2
        rw [if_pos c3, if_pos c3, if_neg (by decide)]
        refine ⟨h2, rfl, R2, O2, C.2.2.1.tr (Z1.tr Z2), ?_⟩
        have T2 : STR q h1 G0 (gu (gu G (243 + 10 * f + l) u) (13 + l) (G (13 + l) - 1)) := T1.off (notLT_small (by omega)) rfl
        exact T2.off (notLT_small (by omega)) s2
      · rw [if_neg c3] at R2 O2
        rw [if_neg c3, if_neg c3, if_pos rfl]
        obtain ⟨h3, q3, P3, O3⟩ := c_offerOf R2 A1 O2 hl2
        have hA := gAdv_le (gu G (243 + 10 * f + l) u) l
        rw [q3, e_bd, e_mn (by omega) (by omega), nI_1]
        refine ih (l + 1) k _ h3 _ (by omega) (by omega) ⟨P3.rq R2, O3, C.2.2.1.tr (Z1.tr (Z2.tr P3.pz)), T1.keep ((P3.2.1 15 (by omega)).trans s2)⟩ A1 (by rw [S1.th hf]; exact ht) (by omega) ⟨fun j h5 h6 => ?_, ?_, fun j h5 => ?_⟩
        · rw [gu_ne (by omega)]; exact F.1 j (by omega) h6
        · rw [gu_ne (by omega)]; exact F.2.1
        · rw [gu_ne (by omega)]; exact F.2.2 j h5
    · have e : gFw f (d + 1) l u G = gFw f d (l + 1) u G := by rw [gFw, if_neg c]
      rw [if_pos c, nI_1, e]
      exact ih (l + 1) k u h G (by omega) (by omega) C A ht hu ⟨fun j h5 h6 => F.1 j (by omega) h6, F.2⟩
theorem RQ.count (R : RQ q h G) {k v : Nat} (hk : k < 2) {h3 : th_H} (e : h3 = th_up h q (9 + k) (nI v)) : RQ q h3 (gu G k v) := by
  subst e
  have S : SP G (gu G k v) := SP.up (Or.inl (by omega))
  obtain ⟨a, b, c, d, e, g, i, j, m⟩ := R
  have ne : ∀ n, n ≠ k → gu G k v n = G n := fun n x => gu_ne x
  refine RQ.re ⟨a, b, c, d, e, g, i, j, m⟩ S (PZ.rf.up (Or.inl rfl)) (fun l' hl' => ?_) (fun f' hf' ht' => ?_) (fun f' hf' ht' => ?_) ?_ ?_ ?_ ?_
  · rw [up_cell (by omega), c l' hl']
    exact congrArg nI (ne (13 + l') (by omega)).symm
  · obtain ⟨d1, d2, d3, d4⟩ := d f' hf' ht'
    have g1 : gTold (gu G k v) f' = gTold G f' := ne _ (by omega)
    have g2 : gWay (gu G k v) f' = gWay G f' := ne _ (by omega)
    have g3 : gWl (gu G k v) f' = gWl G f' := ne _ (by omega)
    have g4 : gWh (gu G k v) f' = gWh G f' := ne _ (by omega)
    rw [up_cell (by omega), up_cell (by omega), up_cell (by omega), up_cell (by omega), up_cell (by omega), up_cell (by omega), g1, g2, g3, g4]
    refine ⟨d1, d2, d3, fun l' hl' => ⟨?_, ?_⟩⟩
    · rw [(d4 l' hl').1]
      exact congrArg nI (ne (243 + 10 * f' + l') (by omega)).symm
    · rw [(d4 l' hl').2]
      exact congrArg nI (ne (443 + 10 * f' + l') (by omega)).symm
  · rw [up_cell (by omega), up_cell (by omega), up_cell (by omega), up_cell (by omega)]
    exact e f' hf' ht'
  · rw [up_at, if_neg (by omega)]
  · rw [up_at]
    by_cases z : k = 0
    · subst z
      rw [if_pos ⟨rfl, rfl⟩, gu_eq]
    · rw [if_neg (by omega), ne 0 (by omega)]; exact i
  · rw [up_at]
    by_cases z : k = 1
    · subst z
      rw [if_pos ⟨rfl, rfl⟩, gu_eq]
    · rw [if_neg (by omega), ne 1 (by omega)]; exact j
  · rw [up_at, if_neg (by omega), ne 2 (by omega)]
    exact m
theorem c_send {G0 : GR} {h0 : th_H} (C : CP q h0 h G0 G) (A : IA G) {f : Nat} (hf : f < 20) (ht : gTh G f = true) (F : FreshF G0 G f 0) : ∃ h2, fX1_send q (nI f) h = some ((), h2) ∧ CP q h0 h2 G0 (gSend G f) := by
  unfold fX1_send gSend
  rw [e_st, C.1.2.2.2.2.2.2.1, nI_1]
  obtain ⟨A0, S0⟩ := A.up (k := 0) (v := G 0 + 1) (Or.inl (by omega)) (Or.inr (by omega)) (by omega)
  have R1 : RQ q (th_up h q 9 (nI (G 0 + 1))) (gu G 0 (G 0 + 1)) := C.1.count (k := 0) (by omega) rfl
  have O1 : OC q (th_up h q 9 (nI (G 0 + 1))) (gu G 0 (G 0 + 1)) := C.2.1.keep (by rw [up_at, if_neg (by omega)]) (by rw [up_cell (by omega)]) (by rw [up_cell (by omega)]) (fun l hl => gAdv_other (Or.inr (Or.inr (Or.inl (by omega)))) hl)
  have T1 : STR q (th_up h q 9 (nI (G 0 + 1))) G0 (gu G 0 (G 0 + 1)) := C.2.2.2.off (notLT_small (by omega)) (by rw [up_at, if_neg (by omega)])
  rw [c_ownOf R1.1 A0.1 hf (by rw [S0.th hf]; exact ht), e_bd, S0.own hf]
  exact c_send_c21 hf 10 0 1000 (gOwn G f) _ _ (by omega) (by omega) ⟨R1, O1, C.2.2.1.up (Or.inl rfl), T1⟩ A0 (by rw [S0.th hf]; exact ht) (gOwn_le A.1 hf ht) ⟨fun j h5 h6 => by rw [gu_ne (by omega)]; exact F.1 j h5 h6, by rw [gu_ne (by omega)]; exact F.2.1, fun j h5 => by rw [gu_ne (by omega)]; exact F.2.2 j h5⟩
end
