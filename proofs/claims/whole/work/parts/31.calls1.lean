/-! ===== calls, the class beside the reference ===== -/
def Sp2 (fc fm : th_H → Option (Int32 × th_H)) : Prop := ∀ n h m, n < 512 → Rel n h m → ∃ r h2 m2, fc h = some (r, h2) ∧ fm m = some (r, m2) ∧ Rel (n + 1) h2 m2
theorem e_li (x : Int32) : (0 ≤ x.toInt ∧ x.toInt ≤ 9) → ∃ l, l < 10 ∧ x = nI l := fun h => rng (n := 10) (by omega) (by omega)
theorem e_fl (x : Int32) : (0 ≤ x.toInt ∧ x.toInt ≤ 19) → ∃ l, l < 20 ∧ x = nI l := fun h => rng (n := 20) (by omega) (by omega)
section
variable {n : Nat} {h m h2 m2 : th_H} {G G' : GR}
theorem RelG.rp (R : RelG n G h m) : RP 2 h G := R.1.1
theorem RelG.iq (R : RelG n G h m) : IQ G := R.2.2.1.1.1
/-- a flow of either, or none -/
theorem RelG.flow (R : RelG n G h m) (x : Int32) : (fX0_has 2 x h = some (0, h) ∧ fX4_isFlow x m = some (0, m)) ∨ ∃ f, f < 20 ∧ x = nI f ∧ gTh G f = true ∧ fX0_has 2 x h = some (1, h) ∧ fX4_isFlow x m = some (1, m) := by
  by_cases c : 0 ≤ x.toInt ∧ x.toInt ≤ 19
  · obtain ⟨f, hf, e⟩ := e_fl x c
    subst e
    by_cases ht : gTh G f = true
    · right
      exact ⟨f, hf, rfl, ht, by rw [c_has R.rp hf, if_pos ht], by rw [m_isFlow R.2.1 R.iq hf, if_pos ht]⟩
    · left
      exact ⟨by rw [c_has R.rp hf, if_neg ht], by rw [m_isFlow R.2.1 R.iq hf, if_neg ht]⟩
  · left
    exact ⟨c_hasNot c, m_noFlow c⟩
/-- a call that is refused by both -/
theorem RelG.no (R : RelG n G h m) {w : Nat} (hw : w < 5) : ∃ r h2 m2, fX3_refuse (nI w) h = some (r, h2) ∧ fX4_refuse (nI w) (th_up m 0 0 0) = some (r, m2) ∧ Rel (n + 1) h2 m2 := ⟨_, _, _, c_refuse hw h, m_refuse hw _, R.refuse hw⟩
theorem bd1 {α : Type} {x : Option (α × th_H)} : (th_bd x fun u h => some (u, h)) = x := by
  cases x with
  | none => rfl
  | some y => rfl
end
theorem s_advertised (x : Int32) : Sp2 (fX3_advertised x) (fX4_advertised x) := by
  intro n h m hn ⟨G, R⟩
  have R0 := R.th0
  unfold fX3_advertised fX4_advertised
  rw [c_isLink, e_bd, e_st, m_isLink, e_bd, ic e_c0, ic e_c0]
  by_cases c : 0 ≤ x.toInt ∧ x.toInt ≤ 9
  · rw [if_neg (not_not_intro c), if_neg (not_not_intro c)]
    obtain ⟨l, hl, e⟩ := e_li x c
    subst e
    obtain ⟨h2, q2, P, O⟩ := c_offerOf R.1 R.2.2.1.1 R.2.2.2.1 hl
    rw [q2, m_advertises R0.2.1 R.iq R.2.2.1.1.2.1 R.2.2.1.1.2.2.1 hl]
    exact ⟨_, _, _, rfl, rfl, G, R0.pz hn P.pz (P.rq R.1) O R.2.2.1 SP.rf (MX.rf (s := []) R0.2.1) (by simp) (by simp) (by simp)⟩
  · rw [if_pos c, if_pos c]
    exact ⟨_, _, _, rfl, rfl, G, R0.inc⟩
theorem s_letter (x : Int32) : Sp2 (fX3_letter x) (fX4_letter x) := by
  intro n h m hn ⟨G, R⟩
  have R0 := R.th0
  unfold fX3_letter fX4_letter
  rw [e_st]
  rcases R0.flow x with ⟨a, b⟩ | ⟨f, hf, e, ht, a, b⟩
  · rw [a, b, e_bd, e_bd, if_pos rfl, if_pos rfl, bd1, bd1]
    exact R.no (w := 1) (by omega)
  · rw [a, b, e_bd, e_bd, if_neg (by decide), if_neg (by decide), e]
    have A := R.2.2.1.1
    have hC : ∃ G0, STR 1 h G0 G ∧ FreshF G0 G f 0 := by
      by_cases z : h.1 1 15 = 0
      · exact ⟨G, ⟨trivial, fun _ _ _ => rfl, fun _ => z⟩, fun _ _ _ => rfl, rfl, fun _ _ => rfl⟩
      · have hg : ∃ g, g < 20 ∧ g ≠ f := by
          by_cases y : f = 0
          · exact ⟨1, by omega, by omega⟩
          · exact ⟨0, by omega, by omega⟩
        obtain ⟨g, hg, hn⟩ := hg
        refine ⟨gu G (243 + 10 * g) (G (243 + 10 * g) + 1), ⟨trivial, fun y => absurd y z, fun y => ?_⟩, fun j _ hj => ?_, ?_, fun j hj => ?_⟩
        · have y1 := y (243 + 10 * g) (Or.inl (by omega))
          rw [gu_eq] at y1
          omega
        · rw [gu_ne (by omega)]
        · rw [gu_ne (by omega)]
        · rw [gu_ne (by omega)]
    obtain ⟨G0, T, F⟩ := hC
    obtain ⟨h2, q2, C⟩ := c_send (h0 := h) ⟨R.1, R.2.2.2.1, PZ.rf, T⟩ A hf ht F
    obtain ⟨m2, q3, M⟩ := m_sends R0.2.1 A hf ht
    obtain ⟨A2, S2⟩ := gSend_ok A hf ht
    have I2 := gSend_ii R.2.2.1 hf ht
    have ht2 : gTh (gSend G f) f = true := by rw [S2.th hf]; exact ht
    rw [q2, q3, e_bd, e_bd, e_rd hf (by omega), m_at, e_bd, e_addl, m_row M.1 (by omega), (C.1.2.2.2.1 f hf ht2).1]
    exact ⟨_, _, _, rfl, rfl, _, R0.pz hn C.2.2.1 C.1 C.2.1 I2 S2 (M.mx []) (by simp) (by simp) (by simp)⟩
theorem s_rounds (x : Int32) : Sp2 (fX3_rounds x) (fX4_rounds x) := by
  intro n h m hn ⟨G, R⟩
  have R0 := R.th0
  unfold fX3_rounds fX4_rounds
  have e1 : (x < 1) = (x.toInt < 1) := e_xlt x 1 (by decide)
  have e2 : (30 < x) = (30 < x.toInt) := e_ltx x 30 (by decide)
  rw [ic e1, ic e2, e_st, m_inl x 1 30 (by decide) (by decide), e_bd, ic e_c0, bd1, bd1]
  by_cases c : 1 ≤ x.toInt ∧ x.toInt ≤ 30
  · rw [if_neg (by omega), if_neg (by omega), if_neg (not_not_intro c)]
    obtain ⟨k, hk, e⟩ := rng (x := x) (n := 31) (by omega) (by omega)
    subst e
    have key : ∀ d i fu (b : Bool) h1 m1 G1, i + d = k → d < fu → RelG n G1 h1 m1 → ∃ r h2 m2, fX3_rounds_c21 fu (nI k) (nI i) (bI b) h1 = some (r, h2) ∧ fX4_rounds_c27 fu (nI k) (nI i) (bI b) m1 = some (r, m2) ∧ Rel n h2 m2 := by
      intro d
      induction d with
      | zero =>
        intro i fu b h1 m1 G1 hi hfu R1
        obtain ⟨fu, rfl⟩ : ∃ z, fu = z + 1 := ⟨fu - 1, by omega⟩
        rw [fX3_rounds_c21, fX4_rounds_c27, ic (e_lt (show i < 2147483648 by omega) (show k < 2147483648 by omega)), if_neg (by omega), ic (e_lt (show i < 2147483648 by omega) (show k < 2147483648 by omega)), if_neg (by omega)]
        exact ⟨_, _, _, rfl, rfl, G1, R1⟩
      | succ d ih =>
        intro i fu b h1 m1 G1 hi hfu R1
        obtain ⟨fu, rfl⟩ : ∃ z, fu = z + 1 := ⟨fu - 1, by omega⟩
        rw [fX3_rounds_c21, fX4_rounds_c27, if_pos (show nI i < nI k from nI_lt (a := i) (b := k) (by omega) (by omega)), if_pos (show nI i < nI k from nI_lt (a := i) (b := k) (by omega) (by omega)), ic (bI_0 b), ic (bI_0 b)]
        cases b with
        | true =>
          rw [if_neg (by simp), if_neg (by simp)]
          exact ⟨_, _, _, rfl, rfl, G1, R1⟩
        | false =>
          rw [if_pos rfl, if_pos rfl]
          obtain ⟨h2, q2, rq, oc, Z⟩ := c_goRound R1.1 R1.2.2.1.1 R1.2.2.2.1 R1.2.2.1.ih
          obtain ⟨m2, q3, M⟩ := m_round R1.2.1 R1.2.2.1.1
          rw [q2, q3, e_bd, e_bd, e_addl]
          exact ih (i + 1) fu _ h2 m2 _ (by omega) (by omega) (R1.pz0 hn Z rq oc (gRound_ii R1.2.2.1) (gRound_ok R1.2.2.1.1).2.sq M (by simp) (by simp) (by simp))
    obtain ⟨r, h2, m2, q2, q3, G2, R2⟩ := key k 0 1000 false h _ G (by omega) (by omega) R0
    exact ⟨r, h2, m2, q2, q3, G2, R2.inc⟩
  · by_cases c1 : x.toInt < 1
    · rw [if_pos c1, if_pos c]
      exact R.no (w := 0) (by omega)
    · rw [if_neg c1, if_pos (show 30 < x.toInt by omega), if_pos c]
      exact R.no (w := 0) (by omega)
