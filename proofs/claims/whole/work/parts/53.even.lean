/-! ===== even ===== -/
theorem lN_toI {n : Nat} (h : n < 9223372036854775808) : (lN n).toInt = (n : Int) := by
  exact lg_ofNat_toInt h
theorem lg00 : lg_cmp (lN 0) 0 = 0 := by decide
theorem lN_ne0 {n : Nat} (h0 : 0 < n) (h : n < 9223372036854775808) : ¬ lN n = 0 := by
  intro e
  rw [fa_eq64, lN_toI h] at e
  have : (0 : Int64).toInt = 0 := rfl
  omega
theorem lN_lt1 {n : Nat} (h0 : 0 < n) (h : n < 9223372036854775808) : ¬ lN n < 1 := by
  intro e
  rw [fa_lt64, lN_toI h] at e
  have : (1 : Int64).toInt = 1 := rfl
  omega
theorem lN_div {a b : Nat} (ha : a < 9223372036854775808) (h0 : 0 < b) (hb : b < 9223372036854775808) : lN a / lN b = lN (a / b) := by
  have hd : a / b ≤ a := Nat.div_le_self _ _
  have e : ((a : Int).tdiv (b : Int)) = ((a / b : Nat) : Int) := (Int.ofNat_tdiv a b).symm
  rw [fa_eq64, Int64.toInt_div, lN_toI ha, lN_toI hb, e]
  generalize a / b = c at hd
  rw [lN_toI (by omega), fb_bmodL (by omega) (by omega)]
theorem lN_rem {a b : Nat} (ha : a < 9223372036854775808) (h0 : 0 < b) (hb : b < 9223372036854775808) : th_rml (lN a) (lN b) = lN (a % b) := by
  unfold th_rml
  have h1 := Nat.div_add_mod a b
  rw [lN_div ha h0 hb, lN_mul, lN_sub (by rw [Nat.mul_comm]; omega)]
  congr 1
  rw [Nat.mul_comm]
  omega
theorem half_mod {a b : Nat} (h0 : 0 < a % b) (hb : 0 < b) {k : Nat} (hk : b < 2 ^ (k + 1)) : b % (a % b) < 2 ^ k := by
  have h1 := Nat.mod_lt a hb
  generalize a % b = c at h0 h1
  have h2 := Nat.mod_lt b h0
  rw [Nat.pow_succ] at hk
  by_cases z : 2 * c ≤ b
  · omega
  · have h3 : b % c = b - c := by
      rw [Nat.mod_eq_sub_mod (by omega), Nat.mod_eq_of_lt (by omega)]
    omega
theorem c_common (h : th_H) : ∀ k a b fu i, a < 9223372036854775808 → b < 9223372036854775808 → b < 2 ^ k → 2 * k < fu → i + 2 * k ≤ 200 → fX3_commonDivisor_c9 fu (lN a) (lN b) (nI i) h = some (lN (Nat.gcd a b), h) := by
  have z0 : ∀ a fu i, 0 < fu → fX3_commonDivisor_c9 fu (lN a) (lN 0) (nI i) h = some (lN (Nat.gcd a 0), h) := by
    intro a fu i hfu
    obtain ⟨fu, rfl⟩ : ∃ z, fu = z + 1 := ⟨fu - 1, by omega⟩
    rw [fX3_commonDivisor_c9, Nat.gcd_zero_right]
    by_cases c : nI i < 200
    · rw [if_pos c, if_pos lg00]
    · rw [if_neg c]
  intro k
  induction k with
  | zero =>
    intro a b fu i ha hb hk hfu hi
    obtain rfl : b = 0 := by have : b < 1 := hk; omega
    exact z0 a fu i (by omega)
  | succ k ih =>
    intro a b fu i ha hb hk hfu hi
    by_cases c : b = 0
    · subst c
      exact z0 a fu i (by omega)
    · obtain ⟨fu, rfl⟩ : ∃ z, fu = z + 1 := ⟨fu - 1, by omega⟩
      have h1 := Nat.mod_lt a (show b > 0 by omega)
      have hn : ¬ lN b = 0 := lN_ne0 (by omega) hb
      rw [fX3_commonDivisor_c9, if_pos (show nI i < (200 : Int32) from nI_lt (a := i) (b := 200) (by omega) (by omega)), if_neg (fun z => hn ((lg_cmp_eq _ _).mp z)), th_dw, if_neg hn, lN_rem ha (by omega) hb, nI_1]
      have eg : Nat.gcd a b = Nat.gcd b (a % b) := by rw [Nat.gcd_comm, Nat.gcd_rec b a, Nat.gcd_comm]
      rw [eg]
      by_cases d : a % b = 0
      · rw [d]
        exact z0 b fu (i + 1) (by omega)
      · obtain ⟨fu, rfl⟩ : ∃ z, fu = z + 1 := ⟨fu - 1, by omega⟩
        have hn2 : ¬ lN (a % b) = 0 := lN_ne0 (by omega) (by omega)
        have hh := half_mod (a := a) (b := b) (k := k) (by omega) (by omega) hk
        rw [fX3_commonDivisor_c9, if_pos (show nI (i + 1) < (200 : Int32) from nI_lt (a := i + 1) (b := 200) (by omega) (by omega)), if_neg (fun z => hn2 ((lg_cmp_eq _ _).mp z)), th_dw, if_neg hn2, lN_rem hb (by omega) (by omega), nI_1]
        have eg2 : Nat.gcd b (a % b) = Nat.gcd (a % b) (b % (a % b)) := by rw [Nat.gcd_comm, Nat.gcd_rec (a % b) b, Nat.gcd_comm]
        rw [eg2]
        have := Nat.mod_lt b (show a % b > 0 by omega)
        exact ih _ _ fu (i + 2) (by omega) (by omega) hh (by omega) (by omega)
theorem m_common (h : th_H) : ∀ k a b fu, a < 9223372036854775808 → b < 9223372036854775808 → b < 2 ^ k → 2 * k < fu → fX4_common_c6 fu (lN a) (lN b) h = some (lN (Nat.gcd a b), h) := by
  have z0 : ∀ a fu, 0 < fu → fX4_common_c6 fu (lN a) (lN 0) h = some (lN (Nat.gcd a 0), h) := by
    intro a fu hfu
    obtain ⟨fu, rfl⟩ : ∃ z, fu = z + 1 := ⟨fu - 1, by omega⟩
    rw [fX4_common_c6, Nat.gcd_zero_right, if_pos lg00]
  intro k
  induction k with
  | zero =>
    intro a b fu ha hb hk hfu
    obtain rfl : b = 0 := by have : b < 1 := hk; omega
    exact z0 a fu (by omega)
  | succ k ih =>
    intro a b fu ha hb hk hfu
    by_cases c : b = 0
    · subst c
      exact z0 a fu (by omega)
    · obtain ⟨fu, rfl⟩ : ∃ z, fu = z + 1 := ⟨fu - 1, by omega⟩
      have h1 := Nat.mod_lt a (show b > 0 by omega)
      have hn : ¬ lN b = 0 := lN_ne0 (by omega) hb
      rw [fX4_common_c6, if_neg (fun z => hn ((lg_cmp_eq _ _).mp z)), th_dw, if_neg hn, lN_rem ha (by omega) hb]
      have eg : Nat.gcd a b = Nat.gcd b (a % b) := by rw [Nat.gcd_comm, Nat.gcd_rec b a, Nat.gcd_comm]
      rw [eg]
      by_cases d : a % b = 0
      · rw [d]
        exact z0 b fu (by omega)
      · obtain ⟨fu, rfl⟩ : ∃ z, fu = z + 1 := ⟨fu - 1, by omega⟩
        have hn2 : ¬ lN (a % b) = 0 := lN_ne0 (by omega) (by omega)
        have hh := half_mod (a := a) (b := b) (k := k) (by omega) (by omega) hk
        rw [fX4_common_c6, if_neg (fun z => hn2 ((lg_cmp_eq _ _).mp z)), th_dw, if_neg hn2, lN_rem hb (by omega) (by omega)]
        have eg2 : Nat.gcd b (a % b) = Nat.gcd (a % b) (b % (a % b)) := by rw [Nat.gcd_comm, Nat.gcd_rec (a % b) b, Nat.gcd_comm]
        rw [eg2]
        have := Nat.mod_lt b (show a % b > 0 by omega)
        exact ih _ _ fu (by omega) (by omega) hh (by omega)
def gSq (G : GR) (n : Nat) : Nat := fb_sm (fun f => if gTh G f = true then gRate G f (gLv G f) * gRate G f (gLv G f) else 0) n
def evR (s q n : Nat) (x : Int32) : Int64 := if s = 0 then -1 else if x = 0 then lN (s * s / Nat.gcd (s * s) (n * q)) else lN (n * q / Nat.gcd (s * s) (n * q))
section
variable {h : th_H} {G : GR}
theorem gSq_le (I : IQ G) (B : IB G) : gSq G 20 ≤ 1620003240001620 := by
  have key : ∀ n, n ≤ 20 → gSq G n ≤ n * 81000162000081 := by
    intro n
    induction n with
    | zero => intro _; exact Nat.zero_le _
    | succ n ih =>
      intro hn
      have h1 := ih (by omega)
      unfold gSq at h1 ⊢
      rw [fb_sm_succ, Nat.succ_mul]
      by_cases c : gTh G n = true
      · have := gRate_le I (show n < 20 by omega) c (show gLv G n ≤ 1000001 by have := gLv_le I B n; omega)
        have h2 : gRate G n (gLv G n) * gRate G n (gLv G n) ≤ 81000162000081 := Nat.le_trans (Nat.mul_le_mul this this) (by decide)
        rw [if_pos c]
        exact Nat.add_le_add h1 h2
      · rw [if_neg c]
        exact Nat.le_trans h1 (Nat.le_add_right _ _)
  exact key 20 (by omega)
theorem ev_c (R : RP 2 h G) (F : FWt 19 G h) (I : IQ G) (B : IB G) (x : Int32) : fX3_even_c28 1000 x 0 0 0 h = some (evR (gRs G (gTh G)) (gSq G 20) (gMany G) x, h) := by
  refine for_up 20 (fun fu i => fX3_even_c28 fu x (lN (fb_sm (fun f => if gTh G f = true then gRate G f (gLv G f) else 0) i)) (lN (gSq G i)) (nI i) h) _ ?_ ?_ (by omega)
  · intro fu i hi
    have es : gSq G (i + 1) = gSq G i + (if gTh G i = true then gRate G i (gLv G i) * gRate G i (gLv G i) else 0) := rfl
    rw [fX3_even_c28, if_pos (show nI i < (20 : Int32) from nI_lt (a := i) (b := 20) hi (by omega)), c_has R hi, e_bd, ic e_c0, fb_sm_succ, es, nI_1]
    by_cases c : gTh G i = true
    · have hl := gLv_le I B i
      have hw : h.1 20 i = nI (gLv G i) := F.2.1 i hi
      have hr := gRate_le I hi c (show gLv G i ≤ 1000001 by omega)
      have er : fX2_rateOf 19 2 (nI i) h = some (nI (gRate G i (gLv G i)), h) := by
        unfold fX2_rateOf
        rw [c_has R hi, e_bd, if_pos c, if_neg (by decide), e_rd hi (by omega), bd1]
        show fX0_rateBy 2 (nI i) (h.1 20 i) h = _
        rw [hw, c_rateBy R I hi c (by omega)]
      rw [if_neg (not_not_intro c), if_pos c, if_pos c, er, e_bd, nI_l (by omega), lN_add, lN_mul, lN_add]
    · rw [if_pos c, if_neg c, if_neg c]
      rfl
  · intro fu
    have hs : gRs G (gTh G) ≤ 180000180 := gRs_le I B (fun _ _ z => z)
    have hq := gSq_le I B
    have hm : gMany G ≤ 20 := fb_ct_le _ 20
    rw [fX3_even_c28, if_neg (by decide)]
    have eR : fb_sm (fun f => if gTh G f = true then gRate G f (gLv G f) else 0) 20 = gRs G (gTh G) := rfl
    have eM : fb_ct (gTh G) 20 = gMany G := rfl
    rw [eR]
    unfold evR
    by_cases z : gRs G (gTh G) = 0
    · rw [z, if_pos lg00, if_pos rfl]
    · have hn : ¬ lN (gRs G (gTh G)) = 0 := lN_ne0 (by omega) (by omega)
      have h1 : gRs G (gTh G) * gRs G (gTh G) ≤ 180000180 * 180000180 := Nat.mul_le_mul hs hs
      have h0 : 0 < gRs G (gTh G) * gRs G (gTh G) := Nat.mul_pos (by omega) (by omega)
      have h2 : gMany G * gSq G 20 ≤ 20 * 1620003240001620 := Nat.mul_le_mul hm hq
      have h3 : 0 < Nat.gcd (gRs G (gTh G) * gRs G (gTh G)) (gMany G * gSq G 20) := Nat.gcd_pos_of_pos_left _ h0
      have h4 : Nat.gcd (gRs G (gTh G) * gRs G (gTh G)) (gMany G * gSq G 20) ≤ gRs G (gTh G) * gRs G (gTh G) := Nat.gcd_le_left _ h0
      have h5 : 180000180 * 180000180 < 2 ^ 63 := by decide
      have h6 : 20 * 1620003240001620 < 2 ^ 63 := by decide
      rw [if_neg (fun y => hn ((lg_cmp_eq _ _).mp y)), if_neg z, R.2.2.2.2, bits_mk, eM, e_bd, nI_l (show gMany G < 2147483648 by omega), lN_mul, lN_mul]
      unfold fX3_commonDivisor
      have e0 : fX3_commonDivisor_c9 1000 (lN (gRs G (gTh G) * gRs G (gTh G))) (lN (gMany G * gSq G 20)) 0 h = some (lN (Nat.gcd (gRs G (gTh G) * gRs G (gTh G)) (gMany G * gSq G 20)), h) := c_common h 63 _ _ 1000 0 (by omega) (by omega) (by omega) (by omega) (by omega)
      rw [e0, e_bd]
      have hd : ¬ lN (Nat.gcd (gRs G (gTh G) * gRs G (gTh G)) (gMany G * gSq G 20)) = 0 := lN_ne0 h3 (by omega)
      have hd1 : ¬ lN (Nat.gcd (gRs G (gTh G) * gRs G (gTh G)) (gMany G * gSq G 20)) < 1 := lN_lt1 h3 (by omega)
      rw [if_neg (fun y => hd1 ((lg_cmp_lt _ _).mp y)), th_dw, th_dw, if_neg hd, if_neg hd, lN_div (by omega) h3 (by omega), lN_div (by omega) h3 (by omega)]
      by_cases y : x = 0
      · rw [if_pos y, if_pos y]
      · rw [if_neg y, if_neg y]
theorem ev_m (R : RM h G) (M : FM G (fSteps G) h) (I : IQ G) (B : IB G) (x : Int32) : fX4_even_c21 1000 x (lN (gRs G (gTh G))) 0 0 h = some (if 0 ≤ x.toInt ∧ x.toInt ≤ 1 then evR (gRs G (gTh G)) (gSq G 20) (gMany G) x else -1, h) := by
  refine for_up 20 (fun fu i => fX4_even_c21 fu x (lN (gRs G (gTh G))) (lN (gSq G i)) (nI i) h) _ ?_ ?_ (by omega)
  · intro fu i hi
    have es : gSq G (i + 1) = gSq G i + (if gTh G i = true then gRate G i (gLv G i) * gRate G i (gLv G i) else 0) := rfl
    rw [fX4_even_c21, if_pos (show nI i < (20 : Int32) from nI_lt (a := i) (b := 20) hi (by omega)), m_isFlow R I hi, e_bd, ic e_c0, es, nI_1]
    by_cases c : gTh G i = true
    · have hl := gLv_le I B i
      have hr := gRate_le I hi c (show gLv G i ≤ 1000001 by omega)
      rw [if_neg (not_not_intro c), if_pos c, m_fairRate R M I B hi c, e_bd, m_fairRate R M I B hi c, e_bd, nI_l (by omega), lN_mul, lN_add]
    · rw [if_pos c, if_neg c, show (0 : Int64) = lN 0 from rfl, lN_add]
  · intro fu
    have hs : gRs G (gTh G) ≤ 180000180 := gRs_le I B (fun _ _ z => z)
    have hq := gSq_le I B
    have hm : gMany G ≤ 20 := fb_ct_le _ 20
    rw [fX4_even_c21, if_neg (by decide)]
    unfold evR
    by_cases z : gRs G (gTh G) = 0
    · rw [z, if_pos lg00, if_pos rfl]
      split <;> rfl
    · have hn : ¬ lN (gRs G (gTh G)) = 0 := lN_ne0 (by omega) (by omega)
      have h1 : gRs G (gTh G) * gRs G (gTh G) ≤ 180000180 * 180000180 := Nat.mul_le_mul hs hs
      have h0 : 0 < gRs G (gTh G) * gRs G (gTh G) := Nat.mul_pos (by omega) (by omega)
      have h2 : gMany G * gSq G 20 ≤ 20 * 1620003240001620 := Nat.mul_le_mul hm hq
      have h3 : 0 < Nat.gcd (gRs G (gTh G) * gRs G (gTh G)) (gMany G * gSq G 20) := Nat.gcd_pos_of_pos_left _ h0
      have h4 : Nat.gcd (gRs G (gTh G) * gRs G (gTh G)) (gMany G * gSq G 20) ≤ gRs G (gTh G) * gRs G (gTh G) := Nat.gcd_le_left _ h0
      have h5 : 180000180 * 180000180 < 2 ^ 63 := by decide
      have h6 : 20 * 1620003240001620 < 2 ^ 63 := by decide
      rw [if_neg (fun y => hn ((lg_cmp_eq _ _).mp y)), if_neg z, m_inl x 0 1 (by decide) (by decide), e_bd, ic e_c0]
      by_cases w : 0 ≤ x.toInt ∧ x.toInt ≤ 1
      · rw [if_neg (not_not_intro w), if_pos w, m_flowMany R I, e_bd, nI_l (show gMany G < 2147483648 by omega), lN_mul, lN_mul, Nat.mul_comm (gSq G 20) (gMany G)]
        unfold fX4_common
        rw [m_common h 63 _ _ 1000 (by omega) (by omega) (by omega) (by omega), e_bd]
        have hd : ¬ lN (Nat.gcd (gRs G (gTh G) * gRs G (gTh G)) (gMany G * gSq G 20)) = 0 := lN_ne0 h3 (by omega)
        rw [e_bd, th_dw, th_dw, if_neg hd, if_neg hd, lN_div (by omega) h3 (by omega), lN_div (by omega) h3 (by omega)]
        by_cases y : x = 0
        · rw [if_pos y, if_pos y]
        · rw [if_neg y, if_neg y]
      · rw [if_pos w, if_neg w]
end
theorem s_even (x : Int32) : SpL (fX3_even x) (fX4_even x) := by
  intro n h m hn ⟨G, R⟩
  have R0 := R.th0
  obtain ⟨h2, q2, F, R1⟩ := R0.rise
  obtain ⟨m2, q3, M, Z, R2⟩ := R1.lay
  obtain ⟨m3, q4, M3, Z3, R3⟩ := R0.lay
  have I := R.iq
  have B := R.2.2.1.1.2.1
  have hs : gRs G (gTh G) ≤ 180000180 := gRs_le I B (fun _ _ z => z)
  unfold fX3_even fX4_even
  rw [e_st, q2, q3, e_bd, e_bd, m_allRates R2.2.1 M I B, e_bd, nI_l (by omega), ev_c R2.rp F I B, ev_m R2.2.1 M I B]
  by_cases k0 : x = 0
  · rw [if_pos k0, if_pos (by rw [k0]; decide)]
    exact ⟨_, _, _, rfl, rfl, G, R2.inc⟩
  · rw [if_neg k0]
    by_cases k1 : x = 1
    · rw [if_pos k1, if_pos (by rw [k1]; decide)]
      exact ⟨_, _, _, rfl, rfl, G, R2.inc⟩
    · rw [if_neg k1, if_neg (fun z => by
        obtain ⟨j, hj, e⟩ := rng (x := x) (n := 2) (by omega) (by omega)
        subst e
        obtain rfl | rfl : j = 0 ∨ j = 1 := by omega
        · exact k0 rfl
        · exact k1 rfl)]
      have e : m2 = m3 := by
        have := q3.symm.trans q4
        injection this with this
        injection this
      rw [e]
      exact ⟨_, _, _, rfl, rfl, G, R3.inc⟩
