/-! ===== letters of the class ===== -/
section
variable {q : Nat} {h h2 : th_H} {G G' : GR}
theorem RP.sp {p : Nat} (R : RP p h G) (S : SP G G') : RP p h G' := by
  obtain ⟨a, b, c, d, e⟩ := R
  refine ⟨fun l hl => by rw [S.cap hl]; exact a l hl, fun l hl => by rw [b l hl, mk_cong (fun f hf => S.ov (l := l) hf)], fun f hf => by rw [S.th hf, S.path hf]; exact c f hf, fun f hf ht => ?_, by rw [e, mk_cong (fun f hf => S.th hf)]⟩
  rw [S.th hf] at ht
  rw [S.wt hf, S.least hf, S.want hf]
  exact d f hf ht
theorem SP.name (S : SP G G') {f : Nat} (hf : f < 20) : gName G' f = gName G f := S.2 f 1 hf (by omega)
theorem SP.held (S : SP G G') {f : Nat} (hf : f < 20) : gHeld G' f = gHeld G f := S.2 f 6 hf (by omega)
/-- outside the post, and its plan, nothing has changed -/
def PZ (q : Nat) (h h2 : th_H) : Prop := (∀ c, (c < q ∨ q + 17 < c ∨ (q < c ∧ c < q + 9)) → h2.1 c = h.1 c) ∧ h2.2 = h.2
theorem PZ.rf : PZ q h h := ⟨fun _ _ => rfl, rfl⟩
theorem PZ.tr {h1 : th_H} (a : PZ q h h1) (b : PZ q h1 h2) : PZ q h h2 := ⟨fun c x => (b.1 c x).trans (a.1 c x), b.2.trans a.2⟩
theorem PZ.up (a : PZ q h h2) {c k : Nat} {x : Int32} (hc : c = q ∨ (q + 9 ≤ c ∧ c ≤ q + 17)) : PZ q h (th_up h2 c k x) := ⟨fun d y => by rw [up_cell (by omega)]; exact a.1 d y, a.2⟩
theorem PS.pz (Z : PS q h h2) : PZ q h h2 := ⟨fun c x => Z.1 c (by omega) (by omega) (by omega), Z.2.2⟩
theorem PZ.rp (Z : PZ q h h2) (R : RP (q + 1) h G) (S : SP G G') : RP (q + 1) h2 G' := (R.off (fun c x y _ => Z.1 c (by omega)) (by rw [Z.1 _ (by omega)])).sp S
/-- a post again, with other letters -/
theorem RQ.re (R : RQ q h G) (S : SP G G') (Z : PZ q h h2)
    (c12 : ∀ l, l < 10 → h2.1 (q + 12) l = nI (gLose G' l))
    (cth : ∀ f, f < 20 → gTh G f = true → h2.1 (q + 11) f = nI (gTold G' f) ∧ h2.1 (q + 13) f = nI (gWay G' f) ∧ (gWay G' f ≠ 0 → h2.1 (q + 14) f = nI (gWl G' f) ∧ h2.1 (q + 15) f = nI (gWh G' f)) ∧ ∀ l, l < 10 → h2.1 (q + 9) (f * 10 + l) = nI (gAh G' f l) ∧ h2.1 (q + 10) (f * 10 + l) = nI (gBh G' f l))
    (cno : ∀ f, f < 20 → gTh G f = false → h2.1 (q + 11) f = 0 ∧ h2.1 (q + 13) f = 0 ∧ ∀ l, l < 10 → h2.1 (q + 9) (f * 10 + l) = nI 1000000 ∧ h2.1 (q + 10) (f * 10 + l) = nI 1000000)
    (c8 : h2.1 q 8 = h.1 q 8) (c9 : h2.1 q 9 = nI (G' 0)) (c10 : h2.1 q 10 = nI (G' 1)) (c11 : h2.1 q 11 = nI (G' 2)) : RQ q h2 G' := by
  refine ⟨Z.rp R.1 S, fun f hf ht => ?_, c12, fun f hf ht => cth f hf (by rw [← S.th hf]; exact ht), fun f hf ht => cno f hf (by rw [← S.th hf]; exact ht), ?_, c9, c10, c11⟩
  · rw [S.th hf] at ht
    rw [S.name hf, Z.1 _ (by omega)]
    exact R.2.1 f hf ht
  · rw [c8, R.2.2.2.2.2.1]
    exact congrArg nI (mk_cong (fun f hf => by rw [S.th hf, S.held hf]))
theorem gu_same {k v : Nat} (e : G k = v) : gu G k v = G := by
  funext j
  unfold gu
  by_cases c : j = k
  · rw [if_pos c, c, e]
  · rw [if_neg c]
theorem gu_ne {k v j : Nat} (hj : j ≠ k) : gu G k v j = G j := by unfold gu; rw [if_neg hj]
theorem gu_eq {k v : Nat} : gu G k v k = v := by unfold gu; rw [if_pos rfl]
theorem RQ.ahead (R : RQ q h G) {f l u : Nat} (hf : f < 20) (hl : l < 10) (ht : gTh G f = true) {h3 : th_H} (Z : PZ q h h3) (e9 : h3.1 (q + 9) = (th_up h (q + 9) (f * 10 + l) (nI u)).1 (q + 9)) (eo : ∀ c, q + 10 ≤ c → c ≤ q + 15 → h3.1 c = h.1 c) (eq : ∀ j, j ≤ 11 → h3.1 q j = h.1 q j) : RQ q h3 (gu G (243 + 10 * f + l) u) := by
  have S : SP G (gu G (243 + 10 * f + l) u) := SP.up (Or.inr (Or.inr (Or.inl (by omega))))
  obtain ⟨a, b, c, d, e, g, i, j, k⟩ := R
  refine RQ.re ⟨a, b, c, d, e, g, i, j, k⟩ S Z (fun l' hl' => ?_) (fun f' hf' ht' => ?_) (fun f' hf' ht' => ?_) (eq 8 (by omega)) ?_ ?_ ?_
  · rw [eo _ (by omega) (by omega), c l' hl']
    show _ = nI (gu G _ u (13 + l'))
    rw [gu_ne (by omega)]
    rfl
  · obtain ⟨d1, d2, d3, d4⟩ := d f' hf' ht'
    have g1 : gTold (gu G (243 + 10 * f + l) u) f' = gTold G f' := gu_ne (by omega)
    have g2 : gWay (gu G (243 + 10 * f + l) u) f' = gWay G f' := gu_ne (by omega)
    have g3 : gWl (gu G (243 + 10 * f + l) u) f' = gWl G f' := gu_ne (by omega)
    have g4 : gWh (gu G (243 + 10 * f + l) u) f' = gWh G f' := gu_ne (by omega)
    rw [eo _ (by omega) (by omega), eo _ (by omega) (by omega), eo _ (by omega) (by omega), eo _ (by omega) (by omega), eo (q + 10) (by omega) (by omega), g1, g2, g3, g4]
    refine ⟨d1, d2, d3, fun l' hl' => ⟨?_, ?_⟩⟩
    · rw [e9, up_at]
      show _ = nI (gu G _ u (243 + 10 * f' + l'))
      by_cases z : f' = f ∧ l' = l
      · rw [if_pos ⟨rfl, by omega⟩, z.1, z.2, gu_eq]
      · rw [if_neg (by omega), gu_ne (by omega)]
        exact (d4 l' hl').1
    · show _ = nI (gu G _ u (443 + 10 * f' + l'))
      rw [gu_ne (by omega)]
      exact (d4 l' hl').2
  · obtain ⟨e1, e2, e3⟩ := e f' hf' ht'
    have hne : f' ≠ f := fun z => by rw [z, ht] at ht'; cases ht'
    rw [eo _ (by omega) (by omega), eo _ (by omega) (by omega), eo (q + 10) (by omega) (by omega)]
    refine ⟨e1, e2, fun l' hl' => ⟨?_, (e3 l' hl').2⟩⟩
    rw [e9, up_at, if_neg (by omega)]
    exact (e3 l' hl').1
  · rw [eq 9 (by omega), i, gu_ne (by omega)]
  · rw [eq 10 (by omega), j, gu_ne (by omega)]
  · rw [eq 11 (by omega), k, gu_ne (by omega)]
theorem RQ.behind (R : RQ q h G) {f l u : Nat} (hf : f < 20) (hl : l < 10) (ht : gTh G f = true) {h3 : th_H} (Z : PZ q h h3) (e10 : h3.1 (q + 10) = (th_up h (q + 10) (f * 10 + l) (nI u)).1 (q + 10)) (e9 : h3.1 (q + 9) = h.1 (q + 9)) (eo : ∀ c, q + 11 ≤ c → c ≤ q + 15 → h3.1 c = h.1 c) (eq : ∀ j, j ≤ 11 → h3.1 q j = h.1 q j) : RQ q h3 (gu G (443 + 10 * f + l) u) := by
  have S : SP G (gu G (443 + 10 * f + l) u) := SP.up (Or.inr (Or.inr (Or.inl (by omega))))
  obtain ⟨a, b, c, d, e, g, i, j, k⟩ := R
  refine RQ.re ⟨a, b, c, d, e, g, i, j, k⟩ S Z (fun l' hl' => ?_) (fun f' hf' ht' => ?_) (fun f' hf' ht' => ?_) (eq 8 (by omega)) ?_ ?_ ?_
  · rw [eo _ (by omega) (by omega), c l' hl']
    show _ = nI (gu G _ u (13 + l'))
    rw [gu_ne (by omega)]
    rfl
  · obtain ⟨d1, d2, d3, d4⟩ := d f' hf' ht'
    have g1 : gTold (gu G (443 + 10 * f + l) u) f' = gTold G f' := gu_ne (by omega)
    have g2 : gWay (gu G (443 + 10 * f + l) u) f' = gWay G f' := gu_ne (by omega)
    have g3 : gWl (gu G (443 + 10 * f + l) u) f' = gWl G f' := gu_ne (by omega)
    have g4 : gWh (gu G (443 + 10 * f + l) u) f' = gWh G f' := gu_ne (by omega)
    rw [eo _ (by omega) (by omega), eo _ (by omega) (by omega), eo _ (by omega) (by omega), eo _ (by omega) (by omega), e9, g1, g2, g3, g4]
    refine ⟨d1, d2, d3, fun l' hl' => ⟨?_, ?_⟩⟩
    · show _ = nI (gu G _ u (243 + 10 * f' + l'))
      rw [gu_ne (by omega)]
      exact (d4 l' hl').1
    · rw [e10, up_at]
      show _ = nI (gu G _ u (443 + 10 * f' + l'))
      by_cases z : f' = f ∧ l' = l
      · rw [if_pos ⟨rfl, by omega⟩, z.1, z.2, gu_eq]
      · rw [if_neg (by omega), gu_ne (by omega)]
        exact (d4 l' hl').2
  · obtain ⟨e1, e2, e3⟩ := e f' hf' ht'
    have hne : f' ≠ f := fun z => by rw [z, ht] at ht'; cases ht'
    rw [eo _ (by omega) (by omega), eo _ (by omega) (by omega), e9]
    refine ⟨e1, e2, fun l' hl' => ⟨(e3 l' hl').1, ?_⟩⟩
    rw [e10, up_at, if_neg (by omega)]
    exact (e3 l' hl').2
  · rw [eq 9 (by omega), i, gu_ne (by omega)]
  · rw [eq 10 (by omega), j, gu_ne (by omega)]
  · rw [eq 11 (by omega), k, gu_ne (by omega)]
/-- one of a flow's own four numbers, or a count, or what is to be lost -/
theorem RQ.told (R : RQ q h G) {f u : Nat} (hf : f < 20) (ht : gTh G f = true) {h3 : th_H} (Z : PZ q h h3) (e11 : h3.1 (q + 11) = (th_up h (q + 11) f (nI u)).1 (q + 11)) (eo : ∀ c, q + 9 ≤ c → c ≤ q + 15 → c ≠ q + 11 → h3.1 c = h.1 c) (eq : ∀ j, j ≤ 11 → h3.1 q j = h.1 q j) : RQ q h3 (gu G (23 + 11 * f + 7) u) := by
  have S : SP G (gu G (23 + 11 * f + 7) u) := SP.up (Or.inr (Or.inr (Or.inr ⟨f, 7, rfl, by omega, by omega⟩)))
  obtain ⟨a, b, c, d, e, g, i, j, k⟩ := R
  refine RQ.re ⟨a, b, c, d, e, g, i, j, k⟩ S Z (fun l' hl' => ?_) (fun f' hf' ht' => ?_) (fun f' hf' ht' => ?_) (eq 8 (by omega)) ?_ ?_ ?_
  · rw [eo _ (by omega) (by omega) (by omega), c l' hl']
    show _ = nI (gu G _ u (13 + l'))
    rw [gu_ne (by omega)]
    rfl
  · obtain ⟨d1, d2, d3, d4⟩ := d f' hf' ht'
    have g2 : gWay (gu G (23 + 11 * f + 7) u) f' = gWay G f' := gu_ne (by omega)
    have g3 : gWl (gu G (23 + 11 * f + 7) u) f' = gWl G f' := gu_ne (by omega)
    have g4 : gWh (gu G (23 + 11 * f + 7) u) f' = gWh G f' := gu_ne (by omega)
    rw [eo (q + 13) (by omega) (by omega) (by omega), eo (q + 14) (by omega) (by omega) (by omega), eo (q + 15) (by omega) (by omega) (by omega), eo (q + 9) (by omega) (by omega) (by omega), eo (q + 10) (by omega) (by omega) (by omega), g2, g3, g4]
    refine ⟨?_, d2, d3, fun l' hl' => ⟨?_, ?_⟩⟩
    · rw [e11, up_at]
      show _ = nI (gu G _ u (23 + 11 * f' + 7))
      by_cases z : f' = f
      · rw [if_pos ⟨rfl, z⟩, z, gu_eq]
      · rw [if_neg (fun y => z y.2), gu_ne (by omega)]
        exact d1
    · show _ = nI (gu G _ u (243 + 10 * f' + l'))
      rw [gu_ne (by omega)]
      exact (d4 l' hl').1
    · show _ = nI (gu G _ u (443 + 10 * f' + l'))
      rw [gu_ne (by omega)]
      exact (d4 l' hl').2
  · obtain ⟨e1, e2, e3⟩ := e f' hf' ht'
    have hne : f' ≠ f := fun z => by rw [z, ht] at ht'; cases ht'
    rw [eo (q + 13) (by omega) (by omega) (by omega), eo (q + 9) (by omega) (by omega) (by omega), eo (q + 10) (by omega) (by omega) (by omega)]
    refine ⟨?_, e2, e3⟩
    rw [e11, up_at, if_neg (by omega)]
    exact e1
  · rw [eq 9 (by omega), i, gu_ne (by omega)]
  · rw [eq 10 (by omega), j, gu_ne (by omega)]
  · rw [eq 11 (by omega), k, gu_ne (by omega)]
/-- stirred: a number became another one -/
def stir (b : Prop) [Decidable b] (x : Int32) : Int32 := if b then x else 1
theorem c_tellAhead (R : RQ q h G) (A : IA G) (O : OC q h G) {f l u : Nat} (hf : f < 20) (hl : l < 10) (ht : gTh G f = true) (hu : u ≤ 1000000) : ∃ h2, fX1_tellAhead q (nI f) (nI l) (nI u) h = some ((), h2) ∧ RQ q h2 (gu G (243 + 10 * f + l) u) ∧ OC q h2 (gu G (243 + 10 * f + l) u) ∧ PZ q h h2 ∧ h2.1 q 15 = stir (gAh G f l = u) (h.1 q 15) := by
  obtain ⟨ha, -⟩ := A.2.2.1 f hf ht l hl
  have e9 := ((R.2.2.2.1 f hf ht).2.2.2 l hl).1
  unfold fX1_tellAhead
  rw [e_mull, nI_add, e_rd (by omega) (by omega), e9, ic (e_eq (show gAh G f l < 2147483648 by omega) (show u < 2147483648 by omega))]
  unfold stir
  by_cases c : gAh G f l = u
  · rw [if_pos c, if_pos c, gu_same (show G (243 + 10 * f + l) = u from c)]
    exact ⟨h, rfl, R, O, PZ.rf, rfl⟩
  · rw [if_neg c, if_neg c, e_wr (by omega) (by omega), e_wr hl (by omega), e_st]
    have Z : PZ q h (th_up (th_up (th_up h (q + 9) (f * 10 + l) (nI u)) (q + 16) l (-1)) q 15 1) := (((PZ.rf.up (by omega)).up (by omega)).up (Or.inl rfl))
    refine ⟨_, rfl, R.ahead hf hl ht Z ?_ (fun cc x y => ?_) (fun j hj => ?_), ⟨fun hs l' hl' => ?_, O.2.keep (by rw [up_at, if_neg (by omega), up_cell (by omega), up_cell (by omega)]) (by rw [up_cell (by omega), up_cell (by omega), up_cell (by omega)])⟩, Z, up_same⟩
    · rw [up_cell (by omega), up_cell (by omega)]
    · rw [up_cell (by omega), up_cell (by omega), up_cell (by omega)]
    · rw [up_at, if_neg (by omega), up_cell (by omega), up_cell (by omega)]
    · by_cases z : l' = l
      · left
        rw [up_cell (by omega), z, up_same]
      · have hs2 : h.1 q 13 = h.1 (q + 1) 8 := by
          rw [up_at, if_neg (by omega), up_cell (by omega), up_cell (by omega), up_cell (by omega), up_cell (by omega), up_cell (by omega)] at hs
          exact hs
        rw [up_cell (by omega), up_at, if_neg (fun y => z y.2), up_cell (by omega), gAdv_other (Or.inl ⟨f, l, rfl, hf, hl, fun y => z y.symm⟩) hl']
        exact O.1 hs2 l' hl'
theorem c_tellBehind (R : RQ q h G) (A : IA G) (O : OC q h G) {f l u : Nat} (hf : f < 20) (hl : l < 10) (ht : gTh G f = true) (hu : u ≤ 1000000) : ∃ h2, fX1_tellBehind q (nI f) (nI l) (nI u) h = some ((), h2) ∧ RQ q h2 (gu G (443 + 10 * f + l) u) ∧ OC q h2 (gu G (443 + 10 * f + l) u) ∧ PZ q h h2 ∧ h2.1 q 15 = stir (gBh G f l = u) (h.1 q 15) := by
  obtain ⟨-, ha⟩ := A.2.2.1 f hf ht l hl
  have e9 := ((R.2.2.2.1 f hf ht).2.2.2 l hl).2
  unfold fX1_tellBehind
  rw [e_mull, nI_add, e_rd (by omega) (by omega), e9, ic (e_eq (show gBh G f l < 2147483648 by omega) (show u < 2147483648 by omega))]
  unfold stir
  by_cases c : gBh G f l = u
  · rw [if_pos c, if_pos c, gu_same (show G (443 + 10 * f + l) = u from c)]
    exact ⟨h, rfl, R, O, PZ.rf, rfl⟩
  · rw [if_neg c, if_neg c, e_wr (by omega) (by omega), e_wr hl (by omega), e_st]
    have Z : PZ q h (th_up (th_up (th_up h (q + 10) (f * 10 + l) (nI u)) (q + 16) l (-1)) q 15 1) := (((PZ.rf.up (by omega)).up (by omega)).up (Or.inl rfl))
    refine ⟨_, rfl, R.behind hf hl ht Z ?_ ?_ (fun cc x y => ?_) (fun j hj => ?_), ⟨fun hs l' hl' => ?_, O.2.keep (by rw [up_at, if_neg (by omega), up_cell (by omega), up_cell (by omega)]) (by rw [up_cell (by omega), up_cell (by omega), up_cell (by omega)])⟩, Z, up_same⟩
    · rw [up_cell (by omega), up_cell (by omega)]
    · rw [up_cell (by omega), up_cell (by omega), up_cell (by omega)]
    · rw [up_cell (by omega), up_cell (by omega), up_cell (by omega)]
    · rw [up_at, if_neg (by omega), up_cell (by omega), up_cell (by omega)]
    · by_cases z : l' = l
      · left
        rw [up_cell (by omega), z, up_same]
      · have hs2 : h.1 q 13 = h.1 (q + 1) 8 := by
          rw [up_at, if_neg (by omega), up_cell (by omega), up_cell (by omega), up_cell (by omega), up_cell (by omega), up_cell (by omega)] at hs
          exact hs
        rw [up_cell (by omega), up_at, if_neg (fun y => z y.2), up_cell (by omega), gAdv_other (Or.inr (Or.inl ⟨f, l, rfl, hl, fun y => z y.symm⟩)) hl']
        exact O.1 hs2 l' hl'
theorem OC.keep (O : OC q h G) (e13 : h2.1 q 13 = h.1 q 13) (e8 : h2.1 (q + 1) 8 = h.1 (q + 1) 8) (e16 : h2.1 (q + 16) = h.1 (q + 16)) (ea : ∀ l, l < 10 → gAdv G' l = gAdv G l) : OC q h2 G' := by
  refine ⟨fun hs l hl => ?_, O.2.keep e13 e8⟩
  rw [e16, ea l hl]
  exact O.1 (by rw [← e13, ← e8]; exact hs) l hl
theorem c_tell (R : RQ q h G) (O : OC q h G) (hT : ∀ f, f < 20 → gTh G f = true → gTold G f < 4294967296) {f u : Nat} (hf : f < 20) (ht : gTh G f = true) (hu : u ≤ 1000000) : ∃ h2, fX1_tell q (nI f) (nI u) h = some ((), h2) ∧ RQ q h2 (gu G (23 + 11 * f + 7) u) ∧ OC q h2 (gu G (23 + 11 * f + 7) u) ∧ PZ q h h2 ∧ h2.1 q 15 = stir (gTold G f = u) (h.1 q 15) := by
  have e11 := (R.2.2.2.1 f hf ht).1
  unfold fX1_tell
  rw [e_rd hf (by omega), e11, ic (nI_eq32 (hT f hf ht) (show u < 4294967296 by omega))]
  unfold stir
  by_cases c : gTold G f = u
  · rw [if_pos c, if_pos c, gu_same (show G (23 + 11 * f + 7) = u from c)]
    exact ⟨h, rfl, R, O, PZ.rf, rfl⟩
  · rw [if_neg c, if_neg c, e_wr hf (by omega), e_st]
    have Z : PZ q h (th_up (th_up h (q + 11) f (nI u)) q 15 1) := (PZ.rf.up (by omega)).up (Or.inl rfl)
    refine ⟨_, rfl, R.told hf ht Z ?_ (fun cc x y z => ?_) (fun j hj => ?_), O.keep ?_ ?_ ?_ (fun l hl => gAdv_other (Or.inr (Or.inr (Or.inr (Or.inr ⟨f, 7, rfl, hf, by omega, by omega⟩)))) hl), Z, up_same⟩
    · rw [up_cell (by omega)]
    · rw [up_cell (by omega), up_cell z]
    · rw [up_at, if_neg (by omega), up_cell (by omega)]
    · rw [up_at, if_neg (by omega), up_cell (by omega)]
    · rw [up_cell (by omega), up_cell (by omega)]
    · rw [up_cell (by omega), up_cell (by omega)]
end
