/-! ===== forget ===== -/
/-- behind i flows and l links of the next -/
def gFi (i l : Nat) (G : GR) : GR := fun k => if (243 ≤ k ∧ k < 243 + 10 * i + l) ∨ (443 ≤ k ∧ k < 443 + 10 * i + l) then 1000000 else if 23 ≤ k ∧ k < 23 + 11 * i ∧ ((k - 23) % 11 = 7 ∨ (k - 23) % 11 = 8) then 0 else G k
def gFgt (G : GR) : GR := gFi 20 0 G
section
variable {h h0 h2 m : th_H} {G G' : GR}
theorem MF.cong (M : MF h0 h G) (e : ∀ k, k < 643 → G' k = G k) : MF h0 h G' := ⟨fun k hk => by rw [e k hk]; exact M.1 k hk, M.2⟩
theorem m_knowsNothing (M : MF h0 h G) {f l : Nat} (hf : f < 20) (hl : l < 10) : ∃ h2, fX4_knowsNothing (nI f) (nI l) h = some ((), h2) ∧ MF h0 h2 (gu (gu G (243 + 10 * f + l) 1000000) (443 + 10 * f + l) 1000000) := by
  unfold fX4_knowsNothing
  rw [e_lmul, e_ladd, e_ladd, nI_add, nI_add]
  rw [e_wr (show 243 + 10 * f + l < 643 by omega) (by omega), e_wr (show 443 + 10 * f + l < 643 by omega) (by omega)]
  exact ⟨_, rfl, M.up.up⟩
theorem m_forget_c41 {G0 : GR} {β : Type} {f : Nat} (hf : f < 20) (k7 : Int32 → th_H → Option (Int32 × th_H)) : ∀ d l fu h, l + d = 10 → d < fu → MF h0 h (fun k => if (243 + 10 * f ≤ k ∧ k < 243 + 10 * f + l) ∨ (443 + 10 * f ≤ k ∧ k < 443 + 10 * f + l) then 1000000 else G0 k) → ∃ h2, fX4_forget_c41 k7 fu (nI f) (nI l) h = k7 (nI (f + 1)) h2 ∧ MF h0 h2 (fun k => if (243 + 10 * f ≤ k ∧ k < 243 + 10 * f + 10) ∨ (443 + 10 * f ≤ k ∧ k < 443 + 10 * f + 10) then 1000000 else G0 k) := by
  intro d
  induction d with
  | zero =>
    intro l fu h hl hfu M
    obtain ⟨fu, rfl⟩ : ∃ z, fu = z + 1 := ⟨fu - 1, by omega⟩
    obtain rfl : l = 10 := by omega
    rw [fX4_forget_c41, if_neg (by decide), nI_1]
    exact ⟨_, rfl, M⟩
  | succ d ih =>
    intro l fu h hl hfu M
    obtain ⟨fu, rfl⟩ : ∃ z, fu = z + 1 := ⟨fu - 1, by omega⟩
    rw [fX4_forget_c41, if_pos (show nI l < (10 : Int32) from nI_lt (a := l) (b := 10) (by omega) (by omega))]
    obtain ⟨h3, q3, M3⟩ := m_knowsNothing M hf (show l < 10 by omega)
    rw [q3, e_bd, nI_1]
    refine ih (l + 1) fu h3 (by omega) (by omega) (M3.cong (fun k hk => ?_))
    unfold gu
    by_cases c1 : k = 443 + 10 * f + l
    · rw [if_pos c1, if_pos (by omega)]
    · rw [if_neg c1]
      by_cases c2 : k = 243 + 10 * f + l
      · rw [if_pos c2, if_pos (by omega)]
      · rw [if_neg c2]
        show (if (243 + 10 * f ≤ k ∧ k < 243 + 10 * f + (l + 1)) ∨ (443 + 10 * f ≤ k ∧ k < 443 + 10 * f + (l + 1)) then 1000000 else G0 k) = (if (243 + 10 * f ≤ k ∧ k < 243 + 10 * f + l) ∨ (443 + 10 * f ≤ k ∧ k < 443 + 10 * f + l) then 1000000 else G0 k)
        by_cases c3 : (243 + 10 * f ≤ k ∧ k < 243 + 10 * f + l) ∨ (443 + 10 * f ≤ k ∧ k < 443 + 10 * f + l)
        · rw [if_pos c3, if_pos (by omega)]
        · rw [if_neg c3, if_neg (by omega)]
theorem m_forget_c7 {G0 : GR} (h0 : th_H) (A : ∀ h, RM h (gFgt G0) → fX4_flowMany h = some (nI (gMany G0), h)) : ∀ d i fu h, i + d = 20 → d < fu → MF h0 h (gFi i 0 G0) → ∃ h2, fX4_forget_c7 fu (nI i) h = some (nI (gMany G0), h2) ∧ MF h0 h2 (gFgt G0) := by
  intro d
  induction d with
  | zero =>
    intro i fu h hi hfu M
    obtain ⟨fu, rfl⟩ : ∃ z, fu = z + 1 := ⟨fu - 1, by omega⟩
    obtain rfl : i = 20 := by omega
    rw [fX4_forget_c7, if_neg (by decide), bd1, A h M.1]
    exact ⟨_, rfl, M⟩
  | succ d ih =>
    intro i fu h hi hfu M
    obtain ⟨fu, rfl⟩ : ∃ z, fu = z + 1 := ⟨fu - 1, by omega⟩
    rw [fX4_forget_c7, if_pos (show nI i < (20 : Int32) from nI_lt (a := i) (b := 20) (by omega) (by omega)), m_at, e_bd, e_addl, e_wr (show 23 + 11 * i + 7 < 643 by omega) (by omega), m_at, e_bd, e_addl, e_wr (show 23 + 11 * i + 8 < 643 by omega) (by omega)]
    have M1 : MF h0 (th_up (th_up h 2 (23 + 11 * i + 7) 0) 2 (23 + 11 * i + 8) 0) (gu (gu (gFi i 0 G0) (23 + 11 * i + 7) 0) (23 + 11 * i + 8) 0) := (M.up (v := 0)).up (v := 0)
    obtain ⟨h3, q3, M3⟩ := m_forget_c41 (β := Unit) (show i < 20 by omega) (fX4_forget_c7 fu) 10 0 1000 _ (by omega) (by omega) (M1.cong (fun k _ => if_neg (by omega)))
    have q4 : fX4_forget_c41 (fX4_forget_c7 fu) 1000 (nI i) 0 (th_up (th_up h 2 (23 + 11 * i + 7) 0) 2 (23 + 11 * i + 8) 0) = fX4_forget_c7 fu (nI (i + 1)) h3 := q3
    rw [q4]
    refine ih (i + 1) fu h3 (by omega) (by omega) (M3.cong (fun k hk => ?_))
    unfold gu gFi
    by_cases c1 : (243 + 10 * i ≤ k ∧ k < 243 + 10 * i + 10) ∨ (443 + 10 * i ≤ k ∧ k < 443 + 10 * i + 10)
    · rw [if_pos c1, if_pos (by omega)]
    · rw [if_neg c1]
      by_cases c2 : k = 23 + 11 * i + 8
      · rw [if_pos c2, if_neg (by omega), if_pos (by omega)]
      · rw [if_neg c2]
        by_cases c3 : k = 23 + 11 * i + 7
        · rw [if_pos c3, if_neg (by omega), if_pos (by omega)]
        · rw [if_neg c3]
          by_cases c4 : (243 ≤ k ∧ k < 243 + 10 * i + 0) ∨ (443 ≤ k ∧ k < 443 + 10 * i + 0)
          · rw [if_pos c4, if_pos (by omega)]
          · rw [if_neg c4, if_neg (by omega)]
            by_cases c5 : 23 ≤ k ∧ k < 23 + 11 * i ∧ ((k - 23) % 11 = 7 ∨ (k - 23) % 11 = 8)
            · rw [if_pos c5, if_pos (by omega)]
            · rw [if_neg c5, if_neg (by omega)]
theorem gFgt_ne {k : Nat} (h1 : k < 243) (h2 : k < 23 ∨ ((k - 23) % 11 ≠ 7 ∧ (k - 23) % 11 ≠ 8)) : gFgt G k = G k := by
  unfold gFgt gFi
  rw [if_neg (by omega), if_neg (by omega)]
theorem gFgt_kn {k : Nat} (h1 : 243 ≤ k) (h2 : k < 643) : gFgt G k = 1000000 := by
  unfold gFgt gFi
  rw [if_pos (by omega)]
theorem gFgt_0 {f j : Nat} (hf : f < 20) (hj : j = 7 ∨ j = 8) : gFgt G (23 + 11 * f + j) = 0 := by
  unfold gFgt gFi
  rw [if_neg (by omega), if_pos (by omega)]
theorem gFgt_sp : SP G (gFgt G) := ⟨fun l hl => gFgt_ne (by omega) (by omega), fun f j hf hj => gFgt_ne (by omega) (by omega)⟩
theorem gFgt_ii (I : II G) : II (gFgt G) := by
  have S : SP G (gFgt G) := gFgt_sp
  obtain ⟨⟨a, b, e, ls, bg⟩, i2, i3⟩ := I
  refine ⟨⟨S.IQ a, S.IB b, fun f hf ht l hl => ?_, fun l hl => by rw [gFgt_ne (by omega) (by omega)]; exact ls l hl, fun k h1 h2 => ?_⟩, fun g g' hg hg' tg tg' e => ?_, fun g hg ht => ?_⟩
  · unfold gAh gBh
    rw [gFgt_kn (by omega) (by omega), gFgt_kn (by omega) (by omega)]
    exact ⟨Nat.le_refl _, Nat.le_refl _⟩
  · unfold gFgt gFi
    by_cases c1 : (243 ≤ k ∧ k < 243 + 10 * 20 + 0) ∨ (443 ≤ k ∧ k < 443 + 10 * 20 + 0)
    · rw [if_pos c1]; omega
    · rw [if_neg c1]
      by_cases c2 : 23 ≤ k ∧ k < 23 + 11 * 20 ∧ ((k - 23) % 11 = 7 ∨ (k - 23) % 11 = 8)
      · rw [if_pos c2]; omega
      · rw [if_neg c2]; exact bg k h1 h2
  · rw [S.th hg] at tg
    rw [S.th hg'] at tg'
    rw [S.name hg, S.name hg'] at e
    exact i2 g g' hg hg' tg tg' e
  · rw [S.th hg] at ht
    have := i3 g hg ht
    have w7 : gTold (gFgt G) g = 0 := gFgt_0 hg (Or.inl rfl)
    have w8 : gWay (gFgt G) g = 0 := gFgt_0 hg (Or.inr rfl)
    rw [S.name hg, S.held hg, w7, w8]
    refine ⟨this.1, this.2.1, by omega, by omega, fun z => absurd rfl z, fun l hl _ => ?_⟩
    unfold gAh gBh
    exact ⟨gFgt_kn (by omega) (by omega), gFgt_kn (by omega) (by omega)⟩
theorem RQ.forget {q : Nat} (R : RQ q h G) (F : FF q h h2 (fun k => decide (k < 200)) (fun g => decide (g < 20)) (fun j => decide (j < 10))) : RQ q h2 (gFgt G) := by
  have S : SP G (gFgt G) := gFgt_sp
  obtain ⟨a, b, c, d, e, g, i, j, k⟩ := R
  obtain ⟨f9, f10, f11, f13, f16, fo, -⟩ := F
  have uc : ∀ c, c ≠ q + 9 → c ≠ q + 10 → c ≠ q + 11 → c ≠ q + 13 → c ≠ q + 16 → h2.1 c = h.1 c := fo
  have u0 : ∀ j, h2.1 q j = h.1 q j := fun j => by rw [uc q (by omega) (by omega) (by omega) (by omega) (by omega)]
  refine ⟨(a.off (fun c y z _ => uc c (by omega) (by omega) (by omega) (by omega) (by omega)) (by rw [uc (q + 1) (by omega) (by omega) (by omega) (by omega) (by omega)])).sp S, fun g hg ht => ?_, fun l hl => ?_, fun g hg ht => ?_, fun g hg ht => ?_, ?_, ?_, ?_, ?_⟩
  · rw [S.th hg] at ht
    rw [uc _ (by omega) (by omega) (by omega) (by omega) (by omega), S.name hg]; exact b g hg ht
  · unfold gLose
    rw [uc _ (by omega) (by omega) (by omega) (by omega) (by omega), gFgt_ne (by omega) (by omega)]; exact c l hl
  · have w7 : gTold (gFgt G) g = 0 := gFgt_0 hg (Or.inl rfl)
    have w8 : gWay (gFgt G) g = 0 := gFgt_0 hg (Or.inr rfl)
    rw [f11 g, f13 g, w7, w8, if_pos (by simp [hg]), if_pos (by simp [hg])]
    refine ⟨rfl, rfl, fun z => absurd rfl z, fun l hl => ?_⟩
    unfold gAh gBh
    rw [f9, f10, if_pos (by simp; omega), if_pos (by simp; omega), gFgt_kn (by omega) (by omega), gFgt_kn (by omega) (by omega)]
    exact ⟨rfl, rfl⟩
  · rw [f11 g, f13 g, if_pos (by simp [hg]), if_pos (by simp [hg])]
    refine ⟨rfl, rfl, fun l hl => ?_⟩
    rw [f9, f10, if_pos (by simp; omega), if_pos (by simp; omega)]
    exact ⟨rfl, rfl⟩
  · rw [u0, g]
    exact congrArg nI (mk_cong (fun f hf => by rw [S.th hf, S.held hf]))
  · rw [u0, gFgt_ne (by omega) (by omega)]; exact i
  · rw [u0, gFgt_ne (by omega) (by omega)]; exact j
  · rw [u0, gFgt_ne (by omega) (by omega)]; exact k
end
theorem s_forget : Sp2 fX3_forget fX4_forget := by
  intro n h m hn ⟨G, R⟩
  have R0 := R.th0
  unfold fX3_forget fX4_forget
  simp only [bd1]
  rw [e_st]
  obtain ⟨h2, q2, F⟩ := c_forgetAll (q := 1) (h := h)
  have rq := R.1.forget F
  obtain ⟨m2, q3, M⟩ := m_forget_c7 (G0 := G) (th_up m 0 0 0) (fun h R => by rw [m_flowMany R (gFgt_ii R0.2.2.1).1.1, SP.many gFgt_sp]) 20 0 1000 (th_up m 0 0 0) (by omega) (by omega) ((MF.rf R0.2.1).cong (fun k hk => by unfold gFi; rw [if_neg (by omega), if_neg (by omega)]))
  have q4 : fX4_forget_c7 1000 0 (th_up m 0 0 0) = some (nI (gMany G), m2) := q3
  rw [q2, e_bd, q4, rq.1.2.2.2.2, c_bits (Nat.lt_of_lt_of_le (mk_lt _ 20) (Nat.le_refl _)), mk_ct]
  have S : SP G (gFgt G) := gFgt_sp
  rw [show fb_ct (gTh (gFgt G)) 20 = gMany G from S.many]
  have Z : PZ 1 h h2 := ⟨fun c hc => F.2.2.2.2.2.1 c (by omega) (by omega) (by omega) (by omega) (by omega), F.2.2.2.2.2.2⟩
  have oc : OC 1 h2 (gFgt G) := ⟨fun _ l hl => Or.inl (by rw [F.2.2.2.2.1 l, if_pos (by simp [hl])]), R.2.2.2.1.2.keep (by rw [F.2.2.2.2.2.1 1 (by omega) (by omega) (by omega) (by omega) (by omega)]) (by rw [Z.1 (1 + 1) (by omega)])⟩
  exact ⟨_, _, _, rfl, rfl, _, R0.pz hn Z rq oc (gFgt_ii R.2.2.1) S (M.mx []) (by simp) (by simp) (by simp)⟩
