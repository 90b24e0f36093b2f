/-! ===== how many bits ===== -/
theorem us_nI {a : Nat} (ha : a < 4294967296) (k : Nat) (y : Int32) (hk : (y.toUInt32 &&& Int32.toUInt32 31).toNat % 32 = k) : th_us (nI a) y = nI (a >>> k) := by
  have e1 : (nI a).toUInt32 = UInt32.ofNat a := rfl
  have e2 : nI (a >>> k) = (UInt32.ofNat (a >>> k)).toInt32 := rfl
  unfold th_us
  rw [e1, e2]
  congr 1
  apply UInt32.toNat_inj.mp
  have hb : a >>> k ≤ a := by rw [Nat.shiftRight_eq_div_pow]; exact Nat.div_le_self _ _
  rw [UInt32.toNat_shiftRight, hk, UInt32.toNat_ofNat', UInt32.toNat_ofNat', Nat.mod_eq_of_lt (show a < 2 ^ 32 by omega), Nat.mod_eq_of_lt (show a >>> k < 2 ^ 32 by omega)]
theorem us1 {a : Nat} (ha : a < 4294967296) : th_us (nI a) 1 = nI (a / 2) := by
  rw [us_nI ha 1 1 (by decide), Nat.shiftRight_eq_div_pow]
theorem us2 {a : Nat} (ha : a < 4294967296) : th_us (nI a) 2 = nI (a / 4) := by
  rw [us_nI ha 2 2 (by decide), Nat.shiftRight_eq_div_pow]
theorem us4 {a : Nat} (ha : a < 4294967296) : th_us (nI a) 4 = nI (a / 16) := by
  rw [us_nI ha 4 4 (by decide), Nat.shiftRight_eq_div_pow]
theorem us8 {a : Nat} (ha : a < 4294967296) : th_us (nI a) 8 = nI (a / 256) := by
  rw [us_nI ha 8 8 (by decide), Nat.shiftRight_eq_div_pow]
theorem us16 {a : Nat} (ha : a < 4294967296) : th_us (nI a) 16 = nI (a / 65536) := by
  rw [us_nI ha 16 16 (by decide), Nat.shiftRight_eq_div_pow]
theorem e_andl (a n : Nat) : nI a &&& (no_index (OfNat.ofNat n : Int32)) = nI (a &&& OfNat.ofNat n) := by rw [fa_lit, fa_and]; rfl
theorem lane {a b m m' : Nat} (ha : a < 256) (hm : m < 256) : (256 * b + a) &&& (256 * m' + m) = 256 * (b &&& m') + (a &&& m) := by
  apply Nat.eq_of_testBit_eq
  intro i
  have h1 : a &&& m < 2 ^ 8 := Nat.lt_of_le_of_lt Nat.and_le_left ha
  rw [Nat.testBit_and, show 256 = 2 ^ 8 from rfl, Nat.testBit_two_pow_mul_add b (show a < 2 ^ 8 from ha), Nat.testBit_two_pow_mul_add m' (show m < 2 ^ 8 from hm), Nat.testBit_two_pow_mul_add (b &&& m') h1, Nat.testBit_and, Nat.testBit_and]
  by_cases c : i < 8
  · simp [c]
  · simp [c]
def p1 (a : Nat) : Nat := a - (a / 2 &&& 85)
def p2 (a : Nat) : Nat := (a &&& 51) + (a / 4 &&& 51)
def pc (a : Nat) : Nat := fb_ct a.testBit 8
theorem t_1 : ∀ a, a < 256 → ∀ t, t < 2 → (a / 2 + 128 * t) &&& 85 = a / 2 &&& 85 := by decide +kernel
theorem t_1b : ∀ a, a < 256 → (a / 2 &&& 85) ≤ a ∧ p1 a < 256 := by decide +kernel
theorem t_2 : ∀ a, a < 256 → ∀ t, t < 4 → (a / 4 + 64 * t) &&& 51 = a / 4 &&& 51 := by decide +kernel
theorem t_2b : ∀ a, a < 256 → p2 (p1 a) ≤ 68 ∧ p2 (p1 a) % 16 < 5 := by decide +kernel
theorem t_3 : ∀ a, a < 256 → ∀ t, t < 5 → (p2 (p1 a) + (p2 (p1 a) / 16 + 16 * t)) &&& 15 = pc a := by decide +kernel
theorem t_d1 : ∀ d, d < 16 → (d / 2 &&& 21845) = d / 2 &&& 85 := by decide +kernel
theorem t_d2 : ∀ d, d < 256 → (d &&& 13107) = d &&& 51 := by decide +kernel
theorem t_d3 : ∀ d, d < 256 → (d &&& 3855) = d &&& 15 := by decide +kernel
theorem t_d4 : ∀ d, d < 16 → pc d = fb_ct d.testBit 4 := by decide +kernel
theorem pc_le (a : Nat) : pc a ≤ 8 := fb_ct_le _ 8
theorem l3 {a b d m : Nat} (ha : a < 256) (hb : b < 256) (hm : m < 256) (m' : Nat) : (65536 * d + 256 * b + a) &&& (256 * (256 * m' + m) + m) = 65536 * (d &&& m') + 256 * (b &&& m) + (a &&& m) := by
  rw [show 65536 * d + 256 * b + a = 256 * (256 * d + b) + a by omega, lane ha hm, lane hb hm]
  omega
theorem l5 {a b d : Nat} (ha : a ≤ 8) (hb : b ≤ 8) (hd : d ≤ 8) : (65536 * d + 256 * (b + d) + (a + b) + (65536 * d + 256 * (b + d) + (a + b)) / 65536) &&& 63 = a + b + d := by
  have e : (65536 * d + 256 * (b + d) + (a + b)) / 65536 = d := by omega
  have e2 : ∀ z, z &&& 63 = z % 64 := fun z => Nat.and_two_pow_sub_one_eq_mod z 6
  rw [e, e2]
  omega
theorem ct20 (p : Nat → Bool) : fb_ct p (8 + (8 + 4)) = fb_ct p 8 + fb_ct (fun k => p (8 + k)) 8 + fb_ct (fun k => p (8 + (8 + k))) 4 := by
  rw [fb_ct_split p 8 (8 + 4), fb_ct_split (fun k => p (8 + k)) 8 4, Nat.add_assoc]
theorem ct_lanes {a b d : Nat} (ha : a < 256) (hb : b < 256) (hd : d < 16) : fb_ct (65536 * d + 256 * b + a).testBit 20 = pc a + pc b + pc d := by
  have k1 : 65536 * d + 256 * b + a = 2 ^ 8 * (2 ^ 8 * d + b) + a := by omega
  have g1 : fb_ct (65536 * d + 256 * b + a).testBit 8 = fb_ct a.testBit 8 := fb_ct_cong (fun i hi => by rw [k1, Nat.testBit_two_pow_mul_add _ (show a < 2 ^ 8 from ha), if_pos hi])
  have g2 : fb_ct (fun k => (65536 * d + 256 * b + a).testBit (8 + k)) 8 = fb_ct b.testBit 8 := fb_ct_cong (fun i hi => by rw [k1, Nat.testBit_two_pow_mul_add _ (show a < 2 ^ 8 from ha), if_neg (by omega), show 8 + i - 8 = i by omega, Nat.testBit_two_pow_mul_add _ (show b < 2 ^ 8 from hb), if_pos hi])
  have g3 : fb_ct (fun k => (65536 * d + 256 * b + a).testBit (8 + (8 + k))) 4 = fb_ct d.testBit 4 := fb_ct_cong (fun i hi => by rw [k1, Nat.testBit_two_pow_mul_add _ (show a < 2 ^ 8 from ha), if_neg (by omega), show 8 + (8 + i) - 8 = 8 + i by omega, Nat.testBit_two_pow_mul_add _ (show b < 2 ^ 8 from hb), if_neg (by omega), show 8 + i - 8 = i by omega])
  have g4 := t_d4 d hd
  have g5 := ct20 (65536 * d + 256 * b + a).testBit
  rw [g1, g2, g3, ← g4] at g5
  exact g5
theorem c_bits {x : Nat} (hx : x < 2 ^ 20) (h : th_H) : fJ6_bitCount_0f7a4 (nI x) h = some (nI (fb_ct x.testBit 20), h) := by
  obtain ⟨a, b, d, ha, hb, hd, rfl⟩ : ∃ a b d, a < 256 ∧ b < 256 ∧ d < 16 ∧ x = 65536 * d + 256 * b + a := ⟨x % 256, x / 256 % 256, x / 65536, by omega, by omega, by omega, by omega⟩
  have hct := ct_lanes ha hb hd
  rw [hct]
  have A := t_1b a ha
  have B := t_1b b hb
  have D := t_1b d (by omega)
  have A2 := t_2b a ha
  have B2 := t_2b b hb
  have D2 := t_2b d (by omega)
  -- first
  have s1 : (65536 * d + 256 * b + a) / 2 &&& 1431655765 = 65536 * (d / 2 &&& 85) + 256 * (b / 2 &&& 85) + (a / 2 &&& 85) := by
    rw [show (65536 * d + 256 * b + a) / 2 = 65536 * (d / 2) + 256 * (b / 2 + 128 * (d % 2)) + (a / 2 + 128 * (b % 2)) by omega, show 1431655765 = 256 * (256 * 21845 + 85) + 85 from rfl, l3 (by omega) (by omega) (by omega), t_1 a ha _ (by omega), t_1 b hb _ (by omega), t_d1 d hd]
  have e1 : 65536 * d + 256 * b + a - ((65536 * d + 256 * b + a) / 2 &&& 1431655765) = 65536 * p1 d + 256 * p1 b + p1 a := by
    rw [s1]
    unfold p1 at *
    omega
  have s1l : ((65536 * d + 256 * b + a) / 2 &&& 1431655765) ≤ 65536 * d + 256 * b + a := by rw [s1]; omega
  have e2 : ((65536 * p1 d + 256 * p1 b + p1 a) &&& 858993459) + ((65536 * p1 d + 256 * p1 b + p1 a) / 4 &&& 858993459) = 65536 * p2 (p1 d) + 256 * p2 (p1 b) + p2 (p1 a) := by
    have hd4 : p1 d / 4 < 256 := by omega
    rw [show 858993459 = 256 * (256 * 13107 + 51) + 51 from rfl, l3 A.2 B.2 (by omega), show (65536 * p1 d + 256 * p1 b + p1 a) / 4 = 65536 * (p1 d / 4) + 256 * (p1 b / 4 + 64 * (p1 d % 4)) + (p1 a / 4 + 64 * (p1 b % 4)) by omega, l3 (by omega) (by omega) (by omega), t_2 _ A.2 _ (by omega), t_2 _ B.2 _ (by omega), t_d2 _ D.2, t_d2 _ hd4]
    unfold p2
    omega
  have e3 : (65536 * p2 (p1 d) + 256 * p2 (p1 b) + p2 (p1 a) + (65536 * p2 (p1 d) + 256 * p2 (p1 b) + p2 (p1 a)) / 16) &&& 252645135 = 65536 * pc d + 256 * pc b + pc a := by
    have td := t_3 d (by omega) 0 (by omega)
    rw [show 65536 * p2 (p1 d) + 256 * p2 (p1 b) + p2 (p1 a) + (65536 * p2 (p1 d) + 256 * p2 (p1 b) + p2 (p1 a)) / 16 = 65536 * (p2 (p1 d) + (p2 (p1 d) / 16 + 16 * 0)) + 256 * (p2 (p1 b) + (p2 (p1 b) / 16 + 16 * (p2 (p1 d) % 16))) + (p2 (p1 a) + (p2 (p1 a) / 16 + 16 * (p2 (p1 b) % 16))) by omega, show 252645135 = 256 * (256 * 3855 + 15) + 15 from rfl, l3 (by omega) (by omega) (by omega), t_3 a ha _ B2.2, t_3 b hb _ D2.2, t_d3 _ (by omega), td]
  have qa := pc_le a
  have qb := pc_le b
  have qd := pc_le d
  have e4 : 65536 * pc d + 256 * pc b + pc a + (65536 * pc d + 256 * pc b + pc a) / 256 = 65536 * pc d + 256 * (pc b + pc d) + (pc a + pc b) := by omega
  have e5 : (65536 * pc d + 256 * (pc b + pc d) + (pc a + pc b) + (65536 * pc d + 256 * (pc b + pc d) + (pc a + pc b)) / 65536) &&& 63 = pc a + pc b + pc d := l5 qa qb qd
  have f1 : nI (65536 * d + 256 * b + a) - (th_us (nI (65536 * d + 256 * b + a)) 1 &&& 1431655765) = nI (65536 * p1 d + 256 * p1 b + p1 a) := by
    rw [us1 (by omega), e_andl]
    refine (pk_sub s1l).trans ?_
    exact congrArg nI e1
  have f2 : (nI (65536 * p1 d + 256 * p1 b + p1 a) &&& 858993459) + (th_us (nI (65536 * p1 d + 256 * p1 b + p1 a)) 2 &&& 858993459) = nI (65536 * p2 (p1 d) + 256 * p2 (p1 b) + p2 (p1 a)) := by
    rw [us2 (by omega), e_andl, e_andl, nI_add]
    exact congrArg nI e2
  have f3 : (nI (65536 * p2 (p1 d) + 256 * p2 (p1 b) + p2 (p1 a)) + th_us (nI (65536 * p2 (p1 d) + 256 * p2 (p1 b) + p2 (p1 a))) 4) &&& 252645135 = nI (65536 * pc d + 256 * pc b + pc a) := by
    rw [us4 (by omega), nI_add, e_andl]
    exact congrArg nI e3
  have f4 : nI (65536 * pc d + 256 * pc b + pc a) + th_us (nI (65536 * pc d + 256 * pc b + pc a)) 8 = nI (65536 * pc d + 256 * (pc b + pc d) + (pc a + pc b)) := by
    rw [us8 (by omega), nI_add, e4]
  unfold fJ6_bitCount_0f7a4
  rw [f1, f2, f3, f4, us16 (by omega), nI_add, e_andl]
  exact congrArg (fun v => some (nI v, h)) e5
