/-! ===== the class's post: what letters have told ===== -/
theorem e_mull (a n : Nat) : nI a * (no_index (OfNat.ofNat n : Int32)) = nI (a * OfNat.ofNat n) := by rw [fa_lit, pk_mul]; rfl
def RQ (q : Nat) (h : th_H) (G : GR) : Prop :=
  RP (q + 1) h G ∧ RNm (q + 1) h G ∧ (∀ l, l < 10 → h.1 (q + 12) l = nI (gLose G l)) ∧
  (∀ f, f < 20 → gTh G f = true → h.1 (q + 11) f = nI (gTold G f) ∧ h.1 (q + 13) f = nI (gWay G f) ∧ (gWay G f ≠ 0 → h.1 (q + 14) f = nI (gWl G f) ∧ h.1 (q + 15) f = nI (gWh G f)) ∧ ∀ l, l < 10 → h.1 (q + 9) (f * 10 + l) = nI (gAh G f l) ∧ h.1 (q + 10) (f * 10 + l) = nI (gBh G f l)) ∧
  (∀ f, f < 20 → gTh G f = false → h.1 (q + 11) f = 0 ∧ h.1 (q + 13) f = 0 ∧ ∀ l, l < 10 → h.1 (q + 9) (f * 10 + l) = nI 1000000 ∧ h.1 (q + 10) (f * 10 + l) = nI 1000000) ∧
  h.1 q 8 = nI (mk (fun f => gTh G f && gHeld G f == 1) 20) ∧ h.1 q 9 = nI (G 0) ∧ h.1 q 10 = nI (G 1) ∧ h.1 q 11 = nI (G 2)
/-- what was seen is not ahead of what is -/
def SE (x : Int32) (e : Nat) : Prop := x = -1 ∨ ∃ s, s ≤ e ∧ x = nI s
def OD (q : Nat) (h : th_H) : Prop := ∃ b, b < 2147483648 ∧ h.1 (q + 1) 8 = nI b ∧ SE (h.1 q 13) b
theorem OD.keep {q : Nat} {h h2 : th_H} (O : OD q h) (e13 : h2.1 q 13 = h.1 q 13) (e8 : h2.1 (q + 1) 8 = h.1 (q + 1) 8) : OD q h2 := by
  obtain ⟨b, hb, x, y⟩ := O
  exact ⟨b, hb, by rw [e8]; exact x, by rw [e13]; exact y⟩
/-- what is reckoned is thrown away when it is old -/
def OC (q : Nat) (h : th_H) (G : GR) : Prop := (h.1 q 13 = h.1 (q + 1) 8 → ∀ l, l < 10 → h.1 (q + 16) l = -1 ∨ h.1 (q + 16) l = nI (gAdv G l)) ∧ OD q h
/-- only scratch has changed -/
def PS (q : Nat) (h h2 : th_H) : Prop := (∀ c, c ≠ q → c ≠ q + 16 → c ≠ q + 17 → h2.1 c = h.1 c) ∧ (∀ j, j ≠ 13 → h2.1 q j = h.1 q j) ∧ h2.2 = h.2
theorem PS.rf {q : Nat} {h : th_H} : PS q h h := ⟨fun _ _ _ _ => rfl, fun _ _ => rfl, rfl⟩
theorem PS.tr {q : Nat} {h h1 h2 : th_H} (a : PS q h h1) (b : PS q h1 h2) : PS q h h2 := ⟨fun c x y z => (b.1 c x y z).trans (a.1 c x y z), fun j x => (b.2.1 j x).trans (a.2.1 j x), b.2.2.trans a.2.2⟩
theorem PS.rq {q : Nat} {h h2 : th_H} {G : GR} (Z : PS q h h2) (R : RQ q h G) : RQ q h2 G := by
  obtain ⟨a, b, c, d, e, g, i, j, k⟩ := R
  refine ⟨a.off (fun c x y _ => Z.1 c (by omega) (by omega) (by omega)) (by rw [Z.1 _ (by omega) (by omega) (by omega)]), fun f hf ht => ?_, fun l hl => ?_, fun f hf ht => ?_, fun f hf ht => ?_, ?_, ?_, ?_, ?_⟩
  · rw [Z.1 _ (by omega) (by omega) (by omega)]; exact b f hf ht
  · rw [Z.1 _ (by omega) (by omega) (by omega)]; exact c l hl
  · rw [Z.1 (q + 11) (by omega) (by omega) (by omega), Z.1 (q + 13) (by omega) (by omega) (by omega), Z.1 (q + 14) (by omega) (by omega) (by omega), Z.1 (q + 15) (by omega) (by omega) (by omega), Z.1 (q + 9) (by omega) (by omega) (by omega), Z.1 (q + 10) (by omega) (by omega) (by omega)]
    exact d f hf ht
  · rw [Z.1 (q + 11) (by omega) (by omega) (by omega), Z.1 (q + 13) (by omega) (by omega) (by omega), Z.1 (q + 9) (by omega) (by omega) (by omega), Z.1 (q + 10) (by omega) (by omega) (by omega)]
    exact e f hf ht
  · rw [Z.2.1 8 (by omega)]; exact g
  · rw [Z.2.1 9 (by omega)]; exact i
  · rw [Z.2.1 10 (by omega)]; exact j
  · rw [Z.2.1 11 (by omega)]; exact k
section
variable {q : Nat} {h : th_H} {G : GR}
theorem c_els (R : RQ q h G) (E : IE G) {f l : Nat} (hf : f < 20) (hl : l < 10) (ht : gTh G f = true) : fX1_elsewhere q (nI f) (nI l) h = some (nI (gEls G f l), h) := by
  obtain ⟨a, b⟩ := E f hf ht l hl
  obtain ⟨c, d⟩ := (R.2.2.2.1 f hf ht).2.2.2 l hl
  unfold fX1_elsewhere
  rw [e_mull, nI_add, e_rd (by omega) (by omega), c, e_rd (by omega) (by omega), d, e_mn (by omega) (by omega)]
  rfl
theorem c_elsNot (R : RQ q h G) {f l : Nat} (hf : f < 20) (hl : l < 10) (ht : gTh G f = false) : fX1_elsewhere q (nI f) (nI l) h = some (nI 1000000, h) := by
  obtain ⟨c, d⟩ := (R.2.2.2.2.1 f hf ht).2.2 l hl
  unfold fX1_elsewhere
  rw [e_mull, nI_add, e_rd (by omega) (by omega), c, e_rd (by omega) (by omega), d, e_mn (by omega) (by omega)]
  rfl
theorem lS_els {l t : Nat} : lS G (fun f => gEls G f l) l t = gS G l t := rfl
theorem c_offer_c45 (R : RQ q h G) (A : IA G) {l : Nat} (hl : l < 10) : ∃ h2, fX1_offerOf_c45 q 1000 (nI l) 0 h = some (nI (gAdv G l), h2) ∧ h2.1 (q + 16) l = nI (gAdv G l) ∧ (∀ j, j ≠ l → h2.1 (q + 16) j = h.1 (q + 16) j) ∧ (∀ c, c ≠ q + 16 → c ≠ q + 17 → h2.1 c = h.1 c) ∧ h2.2 = h.2 := by
  have key : ∀ d i fu h1, i + d = 20 → d < fu → (∀ f, f < i → gOv G f l = true → h1.1 (q + 17) f = nI (gEls G f l)) → (∀ c, c ≠ q + 17 → h1.1 c = h.1 c) → h1.2 = h.2 → ∃ h2, fX1_offerOf_c45 q fu (nI l) (nI i) h1 = some (nI (gAdv G l), h2) ∧ h2.1 (q + 16) l = nI (gAdv G l) ∧ (∀ j, j ≠ l → h2.1 (q + 16) j = h.1 (q + 16) j) ∧ (∀ c, c ≠ q + 16 → c ≠ q + 17 → h2.1 c = h.1 c) ∧ h2.2 = h.2 := by
    intro d
    induction d with
    | zero =>
      intro i fu h1 hi hfu P1 P2 P3
      obtain ⟨j, rfl⟩ : ∃ j, fu = j + 1 := ⟨fu - 1, by omega⟩
      rw [show i = 20 by omega] at P1 ⊢
      have R1 : RP (q + 1) h1 G := R.1.off (fun c x y _ => P2 c (by omega)) (by rw [P2 _ (by omega)])
      have hg := c_greatestLevel (lim := fun f => gEls G f l) (a := q + 17) R1 A.1 hl (fun f hf c => ⟨P1 f hf c, by
        obtain ⟨a, b⟩ := A.2.2.1 f hf (A.1.ov hf c).1 l hl
        unfold gEls
        omega⟩) (by rw [lS_els, gS_0]; exact A.2.1 l hl)
      rw [fX1_offerOf_c45, if_neg (by decide), hg, e_bd, e_wr hl (by omega), e_rd hl (by omega), up_same]
      refine ⟨_, rfl, up_same, fun j hj => ?_, fun c x y => ?_, P3⟩
      · rw [up_at, if_neg (fun z => hj z.2), P2 _ (by omega)]
      · rw [up_cell x]; exact P2 c y
    | succ d ih =>
      intro i fu h1 hi hfu P1 P2 P3
      obtain ⟨j, rfl⟩ : ∃ j, fu = j + 1 := ⟨fu - 1, by omega⟩
      have hi2 : i < 20 := by omega
      have R1 : RP (q + 1) h1 G := R.1.off (fun c x y _ => P2 c (by omega)) (by rw [P2 _ (by omega)])
      have RQ1 : RQ q h1 G := PS.rq ⟨fun c x y z => P2 c z, fun j _ => by rw [P2 q (by omega)], P3⟩ R
      rw [fX1_offerOf_c45, if_pos (show nI i < (20 : Int32) from nI_lt (a := i) (b := 20) hi2 (by omega)), c_goesOver R1 A.1 hi2 hl, e_bd, ic e_c0, nI_1]
      by_cases c : gOv G i l = true
      · rw [if_neg (not_not_intro c), c_els RQ1 A.2.2.1 hi2 hl (A.1.ov hi2 c).1, e_bd, e_wr hi2 (by omega)]
        refine ih (i + 1) j _ (by omega) (by omega) (fun f hf c2 => ?_) (fun cc hc => by rw [up_cell hc]; exact P2 cc hc) P3
        rw [up_at]
        by_cases z : f = i
        · rw [if_pos ⟨rfl, z⟩, z]
        · rw [if_neg (fun y => z y.2)]; exact P1 f (by omega) c2
      · rw [if_pos c]
        refine ih (i + 1) j h1 (by omega) (by omega) (fun f hf c2 => ?_) P2 P3
        have z : f ≠ i := fun e => by rw [e] at c2; exact c c2
        exact P1 f (by omega) c2
  exact key 20 0 1000 h (by omega) (by omega) (fun f hf => absurd hf (Nat.not_lt_zero f)) (fun _ _ => rfl) rfl
theorem c_offerOf (R : RQ q h G) (A : IA G) (O : OC q h G) {l : Nat} (hl : l < 10) : ∃ h2, fX1_offerOf q (nI l) h = some (nI (gAdv G l), h2) ∧ PS q h h2 ∧ OC q h2 G := by
  have hA := gAdv_le G l
  have step : ∀ h1, PS q h h1 → OD q h1 → h1.1 q 13 = h1.1 (q + 1) 8 → (∀ l, l < 10 → h1.1 (q + 16) l = -1 ∨ h1.1 (q + 16) l = nI (gAdv G l)) → ∃ h2, fX1_offerOf_c33 q (nI l) h1 = some (nI (gAdv G l), h2) ∧ PS q h h2 ∧ OC q h2 G := by
    intro h1 Z od hs ho
    unfold fX1_offerOf_c33
    rw [e_rd hl (by omega)]
    rcases ho l hl with e | e
    · rw [e, if_pos rfl]
      obtain ⟨h2, q2, a1, a2, a3, a4⟩ := c_offer_c45 (Z.rq R) A hl
      refine ⟨h2, q2, Z.tr ⟨fun c x y z => a3 c y z, fun j _ => by rw [a3 q (by omega) (by omega)], a4⟩, fun _ j hj => ?_, od.keep (by rw [a3 q (by omega) (by omega)]) (by rw [a3 (q + 1) (by omega) (by omega)])⟩
      by_cases z : j = l
      · rw [z]; exact Or.inr a1
      · rw [a2 j z]; exact ho j hj
    · rw [e, if_neg (by rw [e_ne1 (by omega)]; exact id), e_rd hl (by omega), e]
      exact ⟨h1, rfl, Z, fun _ => ho, od⟩
  unfold fX1_offerOf
  by_cases c : h.1 q 13 = h.1 (q + 1) 8
  · rw [if_pos c]
    exact step h PS.rf O.2 c (O.1 c)
  · rw [if_neg c]
    obtain ⟨h1, q1, P1, P2, P3⟩ := c_fill (a := q + 16) (na := 10) (by omega) (-1) h
    rw [q1, e_bd, e_st]
    refine step _ ⟨fun cc x y z => ?_, fun j hj => ?_, P3⟩ ?_ ?_ (fun j hj => Or.inl ?_)
    · rw [up_cell x]; exact P2 cc y
    · rw [up_at, if_neg (by omega), P2 q (by omega)]
    · obtain ⟨b, hb, x, y⟩ := O.2
      exact ⟨b, hb, by rw [up_cell (by omega), P2 _ (by omega)]; exact x, Or.inr ⟨b, Nat.le_refl b, by rw [up_same, P2 _ (by omega)]; exact x⟩⟩
    · rw [up_same, up_cell (by omega)]
    · rw [up_cell (by omega)]; exact P1 j hj
/-- what a link advertises doesn't hang on what others know -/
theorem gAdv_other {k v l : Nat} (hk : (∃ f j, k = 243 + 10 * f + j ∧ f < 20 ∧ j < 10 ∧ j ≠ l) ∨ (∃ f j, k = 443 + 10 * f + j ∧ j < 10 ∧ j ≠ l) ∨ k < 3 ∨ (13 ≤ k ∧ k < 23) ∨ ∃ f j, k = 23 + 11 * f + j ∧ f < 20 ∧ 7 ≤ j ∧ j ≤ 10) (hl : l < 10) : gAdv (gu G k v) l = gAdv G l := by
  have hS : SP G (gu G k v) := SP.up (by
    rcases hk with ⟨f, j, h1, h2, h3, h4⟩ | ⟨f, j, h1, h2, h3⟩ | h1 | h1 | ⟨f, j, h1, h2, h3, h4⟩
    · exact Or.inr (Or.inr (Or.inl (by omega)))
    · exact Or.inr (Or.inr (Or.inl (by omega)))
    · exact Or.inl h1
    · exact Or.inr (Or.inl h1)
    · exact Or.inr (Or.inr (Or.inr ⟨f, j, h1, h3, h4⟩)))
  have he : ∀ f, f < 20 → gEls (gu G k v) f l = gEls G f l := by
    intro f hf
    have a1 : gAh (gu G k v) f l = gAh G f l := by
      show gu G k v (243 + 10 * f + l) = _
      unfold gu
      rw [if_neg (by rcases hk with ⟨f', j, h1, h2, h3, h4⟩ | ⟨f', j, h1, h2, h3⟩ | h1 | h1 | ⟨f', j, h1, h2, h3, h4⟩ <;> omega)]
      rfl
    have a2 : gBh (gu G k v) f l = gBh G f l := by
      show gu G k v (443 + 10 * f + l) = _
      unfold gu
      rw [if_neg (by rcases hk with ⟨f', j, h1, h2, h3, h4⟩ | ⟨f', j, h1, h2, h3⟩ | h1 | h1 | ⟨f', j, h1, h2, h3, h4⟩ <;> omega)]
      rfl
    unfold gEls
    rw [a1, a2]
  unfold gAdv
  refine gl_cong (fun t _ => ?_)
  have : gS (gu G k v) l t = gS G l t := fb_sm_cong (fun f hf => by rw [hS.ov hf, hS.rate hf, he f hf])
  rw [this, hS.cap hl]
end
