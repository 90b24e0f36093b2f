/-! ===== what was told is forgotten ===== -/
/-- P: places of AHEAD and BEHIND, T: flows, O: offers thrown away -/
def FF (q : Nat) (h0 h : th_H) (P T O : Nat → Bool) : Prop :=
  (∀ k, h.1 (q + 9) k = if P k = true then nI 1000000 else h0.1 (q + 9) k) ∧ (∀ k, h.1 (q + 10) k = if P k = true then nI 1000000 else h0.1 (q + 10) k) ∧
  (∀ g, h.1 (q + 11) g = if T g = true then 0 else h0.1 (q + 11) g) ∧ (∀ g, h.1 (q + 13) g = if T g = true then 0 else h0.1 (q + 13) g) ∧
  (∀ l, h.1 (q + 16) l = if O l = true then -1 else h0.1 (q + 16) l) ∧
  (∀ c, c ≠ q + 9 → c ≠ q + 10 → c ≠ q + 11 → c ≠ q + 13 → c ≠ q + 16 → h.1 c = h0.1 c) ∧ h.2 = h0.2
section
variable {q : Nat} {h h0 : th_H} {P P' T T' O O' : Nat → Bool}
theorem FF.rf : FF q h h (fun _ => false) (fun _ => false) (fun _ => false) := ⟨fun _ => rfl, fun _ => rfl, fun _ => rfl, fun _ => rfl, fun _ => rfl, fun _ _ _ _ _ _ => rfl, rfl⟩
theorem FF.cong (F : FF q h0 h P T O) (e1 : ∀ k, P' k = P k) (e2 : ∀ k, T' k = T k) (e3 : ∀ k, O' k = O k) : FF q h0 h P' T' O' := by
  have a1 : P' = P := funext e1
  have a2 : T' = T := funext e2
  have a3 : O' = O := funext e3
  rw [a1, a2, a3]
  exact F
theorem c_forgetAt (F : FF q h0 h P T O) {f l : Nat} (hf : f < 20) (hl : l < 10) : ∃ h2, fX1_forgetAt q (nI f) (nI l) h = some ((), h2) ∧ FF q h0 h2 (fun k => P k || k == f * 10 + l) T (fun j => O j || j == l) := by
  unfold fX1_forgetAt
  rw [e_mull, nI_add, e_wr (by omega) (by omega), e_wr (by omega) (by omega), e_wr hl (by omega)]
  obtain ⟨a, b, c, d, e, g, i⟩ := F
  refine ⟨_, rfl, fun k => ?_, fun k => ?_, fun k => ?_, fun k => ?_, fun k => ?_, fun cc c1 c2 c3 c4 c5 => ?_, i⟩
  · rw [up_cell (by omega), up_cell (by omega), up_at, a k]
    by_cases z : k = f * 10 + l
    · rw [if_pos ⟨rfl, z⟩, if_pos (by simp [z])]
      rfl
    · rw [if_neg (fun y => z y.2)]
      simp [z]
  · rw [up_cell (by omega), up_at, up_cell (by omega), b k]
    by_cases z : k = f * 10 + l
    · rw [if_pos ⟨rfl, z⟩, if_pos (by simp [z])]
      rfl
    · rw [if_neg (fun y => z y.2)]
      simp [z]
  · rw [up_cell (by omega), up_cell (by omega), up_cell (by omega)]; exact c k
  · rw [up_cell (by omega), up_cell (by omega), up_cell (by omega)]; exact d k
  · rw [up_at, up_cell (by omega), up_cell (by omega), e k]
    by_cases z : k = l
    · rw [if_pos ⟨rfl, z⟩, if_pos (by simp [z])]
    · rw [if_neg (fun y => z y.2)]
      simp [z]
  · rw [up_cell c5, up_cell c2, up_cell c1]; exact g cc c1 c2 c3 c4 c5
theorem c_forgetFlow (F : FF q h0 h P T O) {f : Nat} (hf : f < 20) : ∃ h2, fX1_forgetFlow q (nI f) h = some ((), h2) ∧ FF q h0 h2 (fun k => P k || (decide (f * 10 ≤ k) && decide (k < f * 10 + 10))) (fun g => T g || g == f) (fun j => O j || decide (j < 10)) := by
  have key : ∀ d l fu h1, l + d = 10 → d < fu → FF q h0 h1 (fun k => P k || (decide (f * 10 ≤ k) && decide (k < f * 10 + l))) T (fun j => O j || decide (j < l)) → ∃ h2, fX1_forgetFlow_c2 q fu (nI f) (nI l) h1 = some ((), h2) ∧ FF q h0 h2 (fun k => P k || (decide (f * 10 ≤ k) && decide (k < f * 10 + 10))) (fun g => T g || g == f) (fun j => O j || decide (j < 10)) := by
    intro d
    induction d with
    | zero =>
      intro l fu h1 hl hfu F1
      obtain ⟨fu, rfl⟩ : ∃ z, fu = z + 1 := ⟨fu - 1, by omega⟩
      obtain rfl : l = 10 := by omega
      rw [fX1_forgetFlow_c2, if_neg (by decide), e_wr hf (by omega), e_wr hf (by omega)]
      obtain ⟨a, b, c, d, e, g, i⟩ := F1
      refine ⟨_, rfl, fun k => ?_, fun k => ?_, fun k => ?_, fun k => ?_, fun k => ?_, fun cc c1 c2 c3 c4 c5 => ?_, i⟩
      · rw [up_cell (by omega), up_cell (by omega)]; exact a k
      · rw [up_cell (by omega), up_cell (by omega)]; exact b k
      · rw [up_cell (by omega), up_at, c k]
        by_cases z : k = f
        · rw [if_pos ⟨rfl, z⟩, if_pos (by simp [z])]
        · rw [if_neg (fun y => z y.2)]
          simp [z]
      · rw [up_at, up_cell (by omega), d k]
        by_cases z : k = f
        · rw [if_pos ⟨rfl, z⟩, if_pos (by simp [z])]
        · rw [if_neg (fun y => z y.2)]
          simp [z]
      · rw [up_cell (by omega), up_cell (by omega)]; exact e k
      · rw [up_cell c4, up_cell c3]; exact g cc c1 c2 c3 c4 c5
    | succ d ih =>
      intro l fu h1 hl hfu F1
      obtain ⟨fu, rfl⟩ : ∃ z, fu = z + 1 := ⟨fu - 1, by omega⟩
      rw [fX1_forgetFlow_c2, if_pos (show nI l < (10 : Int32) from nI_lt (a := l) (b := 10) (by omega) (by omega))]
      obtain ⟨h2, q2, F2⟩ := c_forgetAt F1 hf (show l < 10 by omega)
      rw [q2, e_bd, nI_1]
      refine ih (l + 1) fu h2 (by omega) (by omega) (F2.cong (fun k => ?_) (fun _ => rfl) (fun j => ?_))
      · rw [Bool.or_assoc]
        congr 1
        rw [Bool.eq_iff_iff]
        simp
        omega
      · rw [Bool.or_assoc]
        congr 1
        rw [Bool.eq_iff_iff]
        simp
        omega
  unfold fX1_forgetFlow
  exact key 10 0 1000 h (by omega) (by omega) (F.cong (fun k => by simp; omega) (fun _ => rfl) (fun j => by simp))
theorem c_forgetAll : ∃ h2, fX1_forgetAll q h = some ((), h2) ∧ FF q h h2 (fun k => decide (k < 200)) (fun g => decide (g < 20)) (fun j => decide (j < 10)) := by
  have key : ∀ d i fu h1, i + d = 20 → d < fu → FF q h h1 (fun k => decide (k < 10 * i)) (fun g => decide (g < i)) (fun j => decide (0 < i) && decide (j < 10)) → ∃ h2, fX1_forgetAll_c2 q fu (nI i) h1 = some ((), h2) ∧ FF q h h2 (fun k => decide (k < 200)) (fun g => decide (g < 20)) (fun j => decide (j < 10)) := by
    intro d
    induction d with
    | zero =>
      intro i fu h1 hi hfu F1
      obtain ⟨fu, rfl⟩ : ∃ z, fu = z + 1 := ⟨fu - 1, by omega⟩
      obtain rfl : i = 20 := by omega
      rw [fX1_forgetAll_c2, if_neg (by decide)]
      exact ⟨_, rfl, F1.cong (fun _ => rfl) (fun _ => rfl) (fun j => by simp)⟩
    | succ d ih =>
      intro i fu h1 hi hfu F1
      obtain ⟨fu, rfl⟩ : ∃ z, fu = z + 1 := ⟨fu - 1, by omega⟩
      rw [fX1_forgetAll_c2, if_pos (show nI i < (20 : Int32) from nI_lt (a := i) (b := 20) (by omega) (by omega))]
      obtain ⟨h2, q2, F2⟩ := c_forgetFlow F1 (show i < 20 by omega)
      rw [q2, e_bd, nI_1]
      refine ih (i + 1) fu h2 (by omega) (by omega) (F2.cong (fun k => ?_) (fun g => ?_) (fun j => ?_))
      · rw [Bool.eq_iff_iff]
        simp
        omega
      · rw [Bool.eq_iff_iff]
        simp
        omega
      · rw [Bool.eq_iff_iff]
        simp
  unfold fX1_forgetAll
  exact key 20 0 1000 h (by omega) (by omega) (FF.rf.cong (fun k => by simp) (fun g => by simp) (fun _ => by simp))
end
