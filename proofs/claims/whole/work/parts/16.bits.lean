/-! ===== sets as bits ===== -/
def mk (p : Nat → Bool) : Nat → Nat
  | 0 => 0
  | n + 1 => mk p n ||| (if p n = true then 2 ^ n else 0)
theorem mk_bit (p : Nat → Bool) : ∀ n i, (mk p n).testBit i = (decide (i < n) && p i) := by
  intro n
  induction n with
  | zero => intro i; simp [mk]
  | succ n ih =>
    intro i
    rw [mk, Nat.testBit_or, ih i]
    by_cases c : p n = true
    · rw [if_pos c, Nat.testBit_two_pow]
      by_cases q : n = i
      · subst q
        simp [c]
      · have : (decide (i < n + 1)) = decide (i < n) := by
          by_cases z : i < n
          · simp [z, show i < n + 1 by omega]
          · simp [z, show ¬ i < n + 1 by omega]
        simp [q, this]
    · rw [if_neg c]
      have c2 : p n = false := by simpa using c
      by_cases q : n = i
      · subst q
        simp [c2]
      · have : (decide (i < n + 1)) = decide (i < n) := by
          by_cases z : i < n
          · simp [z, show i < n + 1 by omega]
          · simp [z, show ¬ i < n + 1 by omega]
        simp [this]
theorem mk_lt (p : Nat → Bool) (n : Nat) : mk p n < 2 ^ n := by
  apply Nat.lt_pow_two_of_testBit
  intro i hi
  rw [mk_bit]
  simp [show ¬ i < n by omega]
theorem mk_cong {p q : Nat → Bool} {n : Nat} (h : ∀ k, k < n → p k = q k) : mk p n = mk q n := by
  apply Nat.eq_of_testBit_eq
  intro i
  rw [mk_bit, mk_bit]
  by_cases z : i < n
  · simp [z, h i z]
  · simp [z]
theorem mk_of {x n : Nat} (h : x < 2 ^ n) : mk x.testBit n = x := by
  apply Nat.eq_of_testBit_eq
  intro i
  rw [mk_bit]
  by_cases z : i < n
  · simp [z]
  · have : x < 2 ^ i := Nat.lt_of_lt_of_le h (Nat.pow_le_pow_right (by omega) (by omega))
    simp [z, Nat.testBit_lt_two_pow this]
theorem bits0 {x n : Nat} (h : x < 2 ^ n) : x = 0 ↔ ∀ i, i < n → x.testBit i = false := by
  constructor
  · rintro rfl i _; simp
  · intro h1
    apply Nat.eq_of_testBit_eq
    intro i
    rw [Nat.zero_testBit]
    by_cases z : i < n
    · exact h1 i z
    · exact Nat.testBit_lt_two_pow (Nat.lt_of_lt_of_le h (Nat.pow_le_pow_right (by omega) (by omega)))
/-- the lowest bit goes -/
theorem low_bit {x i : Nat} (hi : x.testBit i = true) (hl : ∀ j, j < i → x.testBit j = false) (j : Nat) : (x &&& (x - 1)).testBit j = if j = i then false else x.testBit j := by
  have m0 : x % 2 ^ i = 0 := by
    apply Nat.eq_of_testBit_eq
    intro k
    rw [Nat.testBit_mod_two_pow, Nat.zero_testBit]
    by_cases z : k < i
    · simp [hl k z]
    · simp [z]
  have hi2 : x / 2 ^ i % 2 = 1 := by simpa [Nat.testBit_eq_decide_div_mod_eq] using hi
  rw [Nat.testBit_and]
  rcases Nat.lt_trichotomy j i with z | z | z
  · rw [hl j z, if_neg (by omega)]
    rfl
  · subst z
    rw [if_pos rfl]
    have e : (x - 1) / 2 ^ j % 2 = 0 := by
      have h1 : x = 2 ^ j * (x / 2 ^ j) := by have := Nat.div_add_mod x (2 ^ j); omega
      have h2 : (x - 1) / 2 ^ j = x / 2 ^ j - 1 := by
        have hp : 0 < 2 ^ j := Nat.two_pow_pos j
        have h3 : x / 2 ^ j = (x / 2 ^ j - 1) + 1 := by
          generalize x / 2 ^ j = y at hi2
          omega
        have h4 : x = 2 ^ j * (x / 2 ^ j - 1) + 2 ^ j := by
          calc x = 2 ^ j * (x / 2 ^ j) := h1
            _ = 2 ^ j * ((x / 2 ^ j - 1) + 1) := by rw [← h3]
            _ = 2 ^ j * (x / 2 ^ j - 1) + 2 ^ j := by rw [Nat.mul_add, Nat.mul_one]
        have h5 : x - 1 = (2 ^ j - 1) + 2 ^ j * (x / 2 ^ j - 1) := by omega
        rw [h5, Nat.add_mul_div_left _ _ hp, Nat.div_eq_of_lt (by omega)]
        omega
      omega
    have : (x - 1).testBit j = false := by simp [Nat.testBit_eq_decide_div_mod_eq, e]
    rw [this, Bool.and_false]
  · rw [if_neg (by omega)]
    have m1 : x % 2 ^ j ≠ 0 := by
      intro h
      have h1 : (x % 2 ^ j).testBit i = true := by rw [Nat.testBit_mod_two_pow]; simp [z, hi]
      rw [h, Nat.zero_testBit] at h1
      cases h1
    have e : (x - 1) / 2 ^ j = x / 2 ^ j := by
      have hp : 0 < 2 ^ j := Nat.two_pow_pos j
      have h1 := Nat.div_add_mod x (2 ^ j)
      have h2 := Nat.mod_lt x hp
      have h5 : x - 1 = (x % 2 ^ j - 1) + 2 ^ j * (x / 2 ^ j) := by omega
      rw [h5, Nat.add_mul_div_left _ _ hp, Nat.div_eq_of_lt (by omega)]
      omega
    rw [Nat.testBit_eq_decide_div_mod_eq, Nat.testBit_eq_decide_div_mod_eq, e, Bool.and_self]
theorem low_ct {x : Nat} (h0 : x ≠ 0) (hx : x < 2 ^ 20) : x &&& (x - 1) < 2 ^ 20 ∧ fb_ct (x &&& (x - 1)).testBit 20 + 1 = fb_ct x.testBit 20 := by
  obtain ⟨i, hi, h1, h2⟩ := fb_first (p := fun i => x.testBit i = true) (n := 20) (by
    by_cases c : ∃ i, i < 20 ∧ x.testBit i = true
    · exact c
    · exact absurd ((bits0 hx).mpr (fun i hi => by
        cases q : x.testBit i
        · rfl
        · exact absurd ⟨i, hi, q⟩ c)) h0)
  have hl : ∀ j, j < i → x.testBit j = false := fun j hj => by simpa using h2 j hj
  refine ⟨Nat.lt_of_le_of_lt Nat.and_le_left hx, ?_⟩
  have h3 := fb_ct_upd x.testBit false hi
  rw [if_pos h1] at h3
  have h4 : fb_ct (x &&& (x - 1)).testBit 20 = fb_ct (fun k => if k = i then false else x.testBit k) 20 := fb_ct_cong (fun k _ => low_bit h1 hl k)
  rw [h4]
  simpa using h3
theorem m_ones {x : Nat} (hx : x < 2 ^ 20) (h : th_H) : fX4_ones (nI x) h = some (nI (fb_ct x.testBit 20), h) := by
  have key : ∀ d n x fu, x < 2 ^ 20 → fb_ct x.testBit 20 = d → d < fu → fX4_ones_c4 fu (nI n) (nI x) h = some (nI (n + d), h) := by
    intro d
    induction d with
    | zero =>
      intro n x fu hx hd hfu
      obtain ⟨k, rfl⟩ : ∃ k, fu = k + 1 := ⟨fu - 1, by omega⟩
      have e : x = 0 := (bits0 hx).mpr (fun i hi => fb_ct_zero.mp hd i hi)
      subst e
      rw [fX4_ones_c4, if_pos nI_0]
      rfl
    | succ d ih =>
      intro n x fu hx hd hfu
      obtain ⟨k, rfl⟩ : ∃ k, fu = k + 1 := ⟨fu - 1, by omega⟩
      have e : x ≠ 0 := by
        rintro rfl
        have : fb_ct (Nat.testBit 0) 20 = 0 := fb_ct_zero.mpr (fun i _ => Nat.zero_testBit i)
        omega
      obtain ⟨h1, h2⟩ := low_ct e hx
      have hx2 : x < 2147483648 := Nat.lt_trans hx (by decide)
      rw [fX4_ones_c4, if_neg (nI_ne0 (by omega) hx2), e_subl (show 1 ≤ x by omega), fa_and, nI_1, ih (n + 1) _ k h1 (by omega) (by omega), show n + 1 + d = n + (d + 1) by omega]
  have h1 := key (fb_ct x.testBit 20) 0 x 1000 hx rfl (by have := fb_ct_le x.testBit 20; omega)
  rw [Nat.zero_add] at h1
  exact h1
theorem mk_ct (p : Nat → Bool) : fb_ct (mk p 20).testBit 20 = fb_ct p 20 := fb_ct_cong (fun k hk => by rw [mk_bit]; simp [hk])
