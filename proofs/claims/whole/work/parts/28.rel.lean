/-! ===== class and reference side by side ===== -/
theorem rng {x : Int32} {n : Nat} (h : 0 ≤ x.toInt ∧ x.toInt < n) (hn : n < 2147483648) : ∃ j, j < n ∧ x = nI j := vp_in_of (vp_in_iff.mpr h) hn
theorem e_xlt (x : Int32) (n : Nat) (hn : (OfNat.ofNat n : Nat) < 2147483648) : (x < (no_index (OfNat.ofNat n : Int32))) = (x.toInt < (OfNat.ofNat n : Nat)) := by
  have h2 : (nI n).toInt = ((OfNat.ofNat n : Nat) : Int) := nI_toInt (n := n) hn
  rw [fa_lit, fa_lt, h2]
theorem e_ltx (x : Int32) (n : Nat) (hn : (OfNat.ofNat n : Nat) < 2147483648) : ((no_index (OfNat.ofNat n : Int32)) < x) = (((OfNat.ofNat n : Nat) : Int) < x.toInt) := by
  have h2 : (nI n).toInt = ((OfNat.ofNat n : Nat) : Int) := nI_toInt (n := n) hn
  rw [fa_lit, fa_lt, h2]
theorem c_isLink (x : Int32) (h : th_H) : fX3_isLink x h = some (if 0 ≤ x.toInt ∧ x.toInt ≤ 9 then 1 else 0, h) := by
  unfold fX3_isLink
  have e1 : (x < 0) = (x.toInt < 0) := e_xlt x 0 (by decide)
  have e2 : (x < 10) = (x.toInt < 10) := e_xlt x 10 (by decide)
  rw [ic e1, ic e2]
  by_cases c1 : x.toInt < 0
  · rw [if_pos c1, if_neg (by omega)]
  · rw [if_neg c1]
    by_cases c2 : x.toInt < 10
    · rw [if_pos c2, if_pos (by omega)]
    · rw [if_neg c2, if_neg (by omega)]
theorem c_isAmount (x : Int32) (h : th_H) : fX3_isAmount x h = some (if 0 ≤ x.toInt ∧ x.toInt ≤ 1000000 then 1 else 0, h) := by
  unfold fX3_isAmount
  have e1 : (x < 0) = (x.toInt < 0) := e_xlt x 0 (by decide)
  have e2 : (1000000 < x) = (1000000 < x.toInt) := e_ltx x 1000000 (by decide)
  rw [ic e1, ic e2]
  by_cases c1 : x.toInt < 0
  · rw [if_pos c1, if_neg (by omega)]
  · rw [if_neg c1]
    by_cases c2 : 1000000 < x.toInt
    · rw [if_pos c2, if_neg (by omega)]
    · rw [if_neg c2, if_pos (by omega)]
theorem c_isPath (x : Int32) (h : th_H) : fX3_isPath x h = some (if 1 ≤ x.toInt ∧ x.toInt ≤ 1023 then 1 else 0, h) := by
  unfold fX3_isPath
  have e1 : (0 < x) = (0 < x.toInt) := e_ltx x 0 (by decide)
  have e2 : (1023 < x) = (1023 < x.toInt) := e_ltx x 1023 (by decide)
  rw [ic e1, ic e2]
  by_cases c1 : 0 < x.toInt
  · rw [if_pos c1]
    by_cases c2 : 1023 < x.toInt
    · rw [if_pos c2, if_neg (by omega)]
    · rw [if_neg c2, if_pos (by omega)]
  · rw [if_neg c1, if_neg (by omega)]
theorem c_isWeight (x : Int32) (h : th_H) : fX3_isWeight x h = some (if 1 ≤ x.toInt ∧ x.toInt ≤ 9 then 1 else 0, h) := by
  unfold fX3_isWeight
  have e1 : (x < 1) = (x.toInt < 1) := e_xlt x 1 (by decide)
  have e2 : (9 < x) = (9 < x.toInt) := e_ltx x 9 (by decide)
  rw [ic e1, ic e2]
  by_cases c1 : x.toInt < 1
  · rw [if_pos c1, if_neg (by omega)]
  · rw [if_neg c1]
    by_cases c2 : 9 < x.toInt
    · rw [if_pos c2, if_neg (by omega)]
    · rw [if_neg c2, if_pos (by omega)]
/-- all that holds between calls, of the numbers alone -/
def II (G : GR) : Prop := IA G ∧ IN G ∧ ∀ f, f < 20 → gTh G f = true → gName G f < 1000000 ∧ gHeld G f ≤ 1 ∧ gTold G f ≤ 1000000 ∧ gWay G f ≤ 2 ∧ (gWay G f ≠ 0 → gWl G f < 10 ∧ (gPath G f).testBit (gWl G f) = true ∧ gWh G f ≤ 1000000) ∧ ∀ l, l < 10 → (gPath G f).testBit l = false → gAh G f l = 1000000 ∧ gBh G f l = 1000000
theorem II.ih {G : GR} (I : II G) : IH G := fun f hf ht => (I.2.2 f hf ht).2.1
theorem SE.up {x : Int32} {e e' : Nat} (h : SE x e) (he : e ≤ e') : SE x e' := h.elim Or.inl (fun ⟨s, a, b⟩ => Or.inr ⟨s, by omega, b⟩)
theorem SE.ne {x : Int32} {e e' : Nat} (h : SE x e) (he : e < e') (hb : e' < 2147483648) : x ≠ nI e' := by
  rcases h with h | ⟨s, a, b⟩
  · rw [h]
    intro z
    rw [e_1n hb] at z
    exact z
  · rw [b]
    intro z
    rw [e_eq (by omega) hb] at z
    omega
def ED (n : Nat) (h : th_H) : Prop := ∃ a b, h.1 2 8 = nI a ∧ h.1 28 8 = nI b ∧ a ≤ 100 * n ∧ b ≤ 100 * n ∧ SE (h.1 1 13) a ∧ SE (h.1 19 9) a ∧ SE (h.1 27 13) b ∧ SE (h.1 45 9) b
def KP (c q j : Nat) (h m : th_H) : Prop := (h.1 0 c = 0 ∧ m.1 4 j = 0) ∨ (h.1 0 c = 1 ∧ m.1 4 j = 1 ∧ ∃ Gk, RQ q h Gk ∧ II Gk ∧ ∀ k, k < 643 → m.1 3 (643 * j + k) = nI (Gk k))
def RelG (n : Nat) (G : GR) (h m : th_H) : Prop := RQ 1 h G ∧ RM m G ∧ II G ∧ OC 1 h G ∧ (h.1 19 9 = h.1 2 8 → FWt 19 G h) ∧ ED n h ∧ KP 7 53 0 h m ∧ KP 8 71 1 h m ∧ ∀ j, j < 5 → h.1 89 j = m.1 1 j
def Rel (n : Nat) (h m : th_H) : Prop := ∃ G, RelG n G h m
theorem RQ.cells {q : Nat} {h h2 : th_H} {G : GR} (R : RQ q h G) (e : ∀ c, q ≤ c → c ≤ q + 17 → h2.1 c = h.1 c) : RQ q h2 G := by
  obtain ⟨a, b, c, d, e', g, i, j, k⟩ := R
  refine ⟨a.off (fun c x y _ => e c (by omega) (by omega)) (by rw [e _ (by omega) (by omega)]), fun f hf ht => ?_, fun l hl => ?_, fun f hf ht => ?_, fun f hf ht => ?_, ?_, ?_, ?_, ?_⟩
  · rw [e _ (by omega) (by omega)]; exact b f hf ht
  · rw [e _ (by omega) (by omega)]; exact c l hl
  · rw [e (q + 11) (by omega) (by omega), e (q + 13) (by omega) (by omega), e (q + 14) (by omega) (by omega), e (q + 15) (by omega) (by omega), e (q + 9) (by omega) (by omega), e (q + 10) (by omega) (by omega)]
    exact d f hf ht
  · rw [e (q + 11) (by omega) (by omega), e (q + 13) (by omega) (by omega), e (q + 9) (by omega) (by omega), e (q + 10) (by omega) (by omega)]
    exact e' f hf ht
  · rw [e q (by omega) (by omega)]; exact g
  · rw [e q (by omega) (by omega)]; exact i
  · rw [e q (by omega) (by omega)]; exact j
  · rw [e q (by omega) (by omega)]; exact k
theorem KP.keep {c q j : Nat} {h m h2 m2 : th_H} (K : KP c q j h m) (e0 : h2.1 0 c = h.1 0 c) (e : ∀ d, q ≤ d → d ≤ q + 17 → h2.1 d = h.1 d) (e3 : m2.1 3 = m.1 3) (e4 : m2.1 4 = m.1 4) : KP c q j h2 m2 := by
  rcases K with ⟨a, b⟩ | ⟨a, b, Gk, R, I, P⟩
  · exact Or.inl ⟨by rw [e0]; exact a, by rw [e4]; exact b⟩
  · exact Or.inr ⟨by rw [e0]; exact a, by rw [e4]; exact b, Gk, R.cells e, I, fun k hk => by rw [e3]; exact P k hk⟩
theorem FW.cells {w k : Nat} {h h2 : th_H} {G : GR} (F : FW w G k h) (e : ∀ c, w ≤ c → c ≤ w + 7 → h2.1 c = h.1 c) : FW w G k h2 := by
  obtain ⟨a, b, c, d⟩ := F
  refine ⟨by rw [e w (by omega) (by omega)]; exact a, fun f hf => by rw [e _ (by omega) (by omega)]; exact b f hf, fun j hj => ?_, fun j f hj hf hx => ?_⟩
  · rw [e (w + 4) (by omega) (by omega), e (w + 5) (by omega) (by omega), e (w + 6) (by omega) (by omega)]; exact c j hj
  · rw [e (w + 2) (by omega) (by omega), e (w + 3) (by omega) (by omega)]; exact d j f hj hf hx
section
variable {n : Nat} {h m h2 m2 : th_H} {G G' : GR}
/-- the kept ones and the refused stay -/
theorem RelG.next {n' : Nat} (R : RelG n G h m) (hk : ∀ c, (c = 0 ∨ (53 ≤ c ∧ c ≤ 89)) → h2.1 c = h.1 c) (rq : RQ 1 h2 G') (rm : RM m2 G') (ii : II G') (oc : OC 1 h2 G') (fw : h2.1 19 9 = h2.1 2 8 → FWt 19 G' h2) (ed : ED n' h2) (hm : m2.1 1 = m.1 1) (hm3 : m2.1 3 = m.1 3) (hm4 : m2.1 4 = m.1 4) : RelG n' G' h2 m2 := by
  obtain ⟨-, -, -, -, -, -, k1, k2, rf⟩ := R
  exact ⟨rq, rm, ii, oc, fw, ed, k1.keep (by rw [hk 0 (Or.inl rfl)]) (fun d a b => hk d (Or.inr (by omega))) hm3 hm4, k2.keep (by rw [hk 0 (Or.inl rfl)]) (fun d a b => hk d (Or.inr (by omega))) hm3 hm4, fun j hj => by rw [hk 89 (Or.inr (by omega)), hm]; exact rf j hj⟩
theorem ED.up {n' : Nat} (E : ED n h) (hn : n ≤ n') : ED n' h := by
  obtain ⟨a, b, e1, e2, e3, e4, e5⟩ := E
  exact ⟨a, b, e1, e2, by omega, by omega, e5⟩
/-- the model's scratch -/
theorem RelG.scr (R : RelG n G h m) (e1 : m2.1 1 = m.1 1) (e2 : m2.1 2 = m.1 2) (e3 : m2.1 3 = m.1 3) (e4 : m2.1 4 = m.1 4) : RelG (n + 1) G h m2 := by
  obtain ⟨a, b, c, d, e, f, -, -, -⟩ := id R
  exact R.next (fun _ _ => rfl) a (b.off e2) c d e (f.up (by omega)) e1 e3 e4
theorem RelG.thr (R : RelG n G h m) {x : Int32} : RM (th_up m 0 0 x) G := R.2.1.off (up_cell (by omega))
/-- a refused call -/
theorem c_refuse {w : Nat} (hw : w < 5) (h : th_H) : fX3_refuse (nI w) h = some (-1, th_up h 89 w (h.1 89 w + 1)) := by
  unfold fX3_refuse
  rw [if_neg (nI_pos (by omega)), if_pos (show nI w < (5 : Int32) from nI_lt (a := w) (b := 5) hw (by omega)), e_rd hw (by omega), e_wr hw (by omega)]
theorem m_refuse {w : Nat} (hw : w < 5) (m : th_H) : fX4_refuse (nI w) m = some (-1, th_up m 1 w (m.1 1 w + 1)) := by
  unfold fX4_refuse
  rw [e_rd hw (by omega), e_wr hw (by omega)]
theorem RelG.refuse (R : RelG n G h m) {w : Nat} (hw : w < 5) : Rel (n + 1) (th_up h 89 w (h.1 89 w + 1)) (th_up (th_up m 0 0 0) 1 w ((th_up m 0 0 0).1 1 w + 1)) := by
  obtain ⟨a, b, c, d, e, ⟨x, y, f1, f2, f3, f4, f5, f6, f7, f8⟩, k1, k2, rf⟩ := R
  have ne : ∀ c, c ≠ 89 → (th_up h 89 w (h.1 89 w + 1)).1 c = h.1 c := fun c hc => up_cell hc
  have nm : ∀ c, c ≠ 0 → c ≠ 1 → (th_up (th_up m 0 0 0) 1 w ((th_up m 0 0 0).1 1 w + 1)).1 c = m.1 c := fun c h0 h1 => by rw [up_cell h1, up_cell h0]
  refine ⟨G, a.cells (fun c _ _ => ne c (by omega)), b.off (nm 2 (by omega) (by omega)), c, d.keep (by rw [ne 1 (by omega)]) (by rw [ne (1 + 1) (by omega)]) (by rw [ne (1 + 16) (by omega)]) (fun _ _ => rfl), fun z => ?_, ⟨x, y, ?_⟩, k1.keep (by rw [ne 0 (by omega)]) (fun d p q => ne d (by omega)) (nm 3 (by omega) (by omega)) (nm 4 (by omega) (by omega)), k2.keep (by rw [ne 0 (by omega)]) (fun d p q => ne d (by omega)) (nm 3 (by omega) (by omega)) (nm 4 (by omega) (by omega)), fun j hj => ?_⟩
  · rw [ne 19 (by omega), ne 2 (by omega)] at z
    exact FW.cells (e z) (fun c p q => ne c (by omega))
  · rw [ne 2 (by omega), ne 28 (by omega), ne 1 (by omega), ne 19 (by omega), ne 27 (by omega), ne 45 (by omega)]
    exact ⟨f1, f2, by omega, by omega, f5, f6, f7, f8⟩
  · rw [up_at, up_at, up_cell (by omega)]
    by_cases z : j = w
    · rw [if_pos ⟨rfl, z⟩, if_pos ⟨rfl, z⟩, rf w hw]
    · rw [if_neg (fun y => z y.2), if_neg (fun y => z y.2)]
      exact rf j hj
end
