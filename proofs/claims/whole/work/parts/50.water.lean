/-! ===== least and greatest levels ===== -/
def lmn (p : Nat → Bool) (v : Nat → Nat) : Nat → Option Nat
  | 0 => none
  | n + 1 => if p n = true then some (match lmn p v n with
    | none => v n
    | some y => min y (v n)) else lmn p v n
def gmx (p : Nat → Bool) (v : Nat → Nat) : Nat → Option Nat
  | 0 => none
  | n + 1 => if p n = true then some (match gmx p v n with
    | none => v n
    | some y => max y (v n)) else gmx p v n
theorem lmn_ok (p : Nat → Bool) (v : Nat → Nat) : ∀ n, (lmn p v n = none ∧ ∀ f, f < n → p f = false) ∨ ∃ y, lmn p v n = some y ∧ (∀ f, f < n → p f = true → y ≤ v f) ∧ ∃ f, f < n ∧ p f = true ∧ v f = y := by
  intro n
  induction n with
  | zero => exact Or.inl ⟨rfl, fun f hf => absurd hf (Nat.not_lt_zero f)⟩
  | succ n ih =>
    rw [lmn]
    cases c : p n with
    | false =>
      rw [if_neg (by simp)]
      rcases ih with ⟨a, b⟩ | ⟨y, a, b, f, hf, d, e⟩
      · exact Or.inl ⟨a, fun f hf => by
          rcases Nat.lt_or_ge f n with z | z
          · exact b f z
          · rw [show f = n by omega]; exact c⟩
      · refine Or.inr ⟨y, a, fun g hg hp => ?_, f, by omega, d, e⟩
        rcases Nat.lt_or_ge g n with z | z
        · exact b g z hp
        · rw [show g = n by omega, c] at hp; cases hp
    | true =>
      rw [if_pos rfl]
      right
      rcases ih with ⟨a, b⟩ | ⟨y, a, b, f, hf, d, e⟩
      · rw [a]
        refine ⟨v n, rfl, fun g hg hp => ?_, n, by omega, c, rfl⟩
        rcases Nat.lt_or_ge g n with z | z
        · rw [b g z] at hp; cases hp
        · rw [show g = n by omega]; exact Nat.le_refl _
      · rw [a]
        refine ⟨min y (v n), rfl, fun g hg hp => ?_, ?_⟩
        · rcases Nat.lt_or_ge g n with z | z
          · have := b g z hp; omega
          · rw [show g = n by omega]; omega
        · by_cases w : y ≤ v n
          · exact ⟨f, by omega, d, by omega⟩
          · exact ⟨n, by omega, c, by omega⟩
theorem gmx_ok (p : Nat → Bool) (v : Nat → Nat) : ∀ n, (gmx p v n = none ∧ ∀ f, f < n → p f = false) ∨ ∃ y, gmx p v n = some y ∧ (∀ f, f < n → p f = true → v f ≤ y) ∧ ∃ f, f < n ∧ p f = true ∧ v f = y := by
  intro n
  induction n with
  | zero => exact Or.inl ⟨rfl, fun f hf => absurd hf (Nat.not_lt_zero f)⟩
  | succ n ih =>
    rw [gmx]
    cases c : p n with
    | false =>
      rw [if_neg (by simp)]
      rcases ih with ⟨a, b⟩ | ⟨y, a, b, f, hf, d, e⟩
      · exact Or.inl ⟨a, fun f hf => by
          rcases Nat.lt_or_ge f n with z | z
          · exact b f z
          · rw [show f = n by omega]; exact c⟩
      · refine Or.inr ⟨y, a, fun g hg hp => ?_, f, by omega, d, e⟩
        rcases Nat.lt_or_ge g n with z | z
        · exact b g z hp
        · rw [show g = n by omega, c] at hp; cases hp
    | true =>
      rw [if_pos rfl]
      right
      rcases ih with ⟨a, b⟩ | ⟨y, a, b, f, hf, d, e⟩
      · rw [a]
        refine ⟨v n, rfl, fun g hg hp => ?_, n, by omega, c, rfl⟩
        rcases Nat.lt_or_ge g n with z | z
        · rw [b g z] at hp; cases hp
        · rw [show g = n by omega]; exact Nat.le_refl _
      · rw [a]
        refine ⟨max y (v n), rfl, fun g hg hp => ?_, ?_⟩
        · rcases Nat.lt_or_ge g n with z | z
          · have := b g z hp; omega
          · rw [show g = n by omega]; omega
        · by_cases w : v n ≤ y
          · exact ⟨f, by omega, d, by omega⟩
          · exact ⟨n, by omega, c, by omega⟩
section
variable {G : GR}
theorem fV_keep {k f s : Nat} (e : fV G k f = some s) : ∀ d, fV G (k + d) f = some s := by
  intro d
  induction d with
  | zero => exact e
  | succ d ih =>
    show (if f < 20 ∧ fX G (fV G (k + d)) f = true then some (fS G (fV G (k + d))) else fV G (k + d) f) = some s
    rw [if_neg]
    · exact ih
    · intro z
      have := (fOp_th (fX_op z.2)).2
      rw [ih] at this
      cases this
theorem fV_at {j k f : Nat} (hj : j < k) (hf : f < 20) (hx : fX G (fV G j) f = true) : fV G k f = some (fS G (fV G j)) := by
  have e : fV G (j + 1) f = some (fS G (fV G j)) := by
    show (if f < 20 ∧ fX G (fV G j) f = true then some (fS G (fV G j)) else fV G j f) = _
    rw [if_pos ⟨hf, hx⟩]
  have := fV_keep e (k - (j + 1))
  rw [show j + 1 + (k - (j + 1)) = k by omega] at this
  exact this
theorem fS_mono (I : IQ G) (B : IB G) {j : Nat} : ∀ d, j + d < fSteps G → fS G (fV G j) ≤ fS G (fV G (j + d)) := by
  intro d
  induction d with
  | zero => intro _; exact Nat.le_refl _
  | succ d ih =>
    intro h
    have h1 := ih (by omega)
    have h2 := fS_up I B (k := j + d) (by omega)
    rw [show j + (d + 1) = j + d + 1 by omega]
    omega
theorem gLv_step (I : IQ G) {f : Nat} (hf : f < 20) (ht : gTh G f = true) : ∃ j, j < fSteps G ∧ fX G (fV G j) f = true ∧ gLv G f = fS G (fV G j) := by
  obtain ⟨t, et⟩ := fV_there I hf ht
  obtain ⟨j, hj, hx⟩ := fV_step (fSteps G) t et
  refine ⟨j, hj, hx, ?_⟩
  unfold gLv
  rw [fV_at hj hf hx]
  rfl
theorem gLv_of {j f : Nat} (hj : j < fSteps G) (hf : f < 20) (hx : fX G (fV G j) f = true) : gLv G f = fS G (fV G j) := by
  unfold gLv
  rw [fV_at hj hf hx]
  rfl
def gLL (G : GR) : Option Nat := if fSteps G = 0 then none else some (fS G (fV G 0))
def gLG (G : GR) : Option Nat := if fSteps G = 0 then none else some (fS G (fV G (fSteps G - 1)))
theorem fSteps_0 (I : IQ G) (h : fSteps G = 0) : ∀ f, f < 20 → gTh G f = false := by
  intro f hf
  have h1 := fSteps_end I
  rw [h] at h1
  cases c : gTh G f with
  | false => rfl
  | true =>
    have : fAny G (fV G 0) = true := fAny_iff.mpr ⟨f, hf, by unfold fOp; rw [c]; rfl⟩
    rw [h1] at this
    cases this
theorem lmn_LL (I : IQ G) (B : IB G) : lmn (gTh G) (gLv G) 20 = gLL G := by
  unfold gLL
  rcases lmn_ok (gTh G) (gLv G) 20 with ⟨a, b⟩ | ⟨y, a, b, f, hf, d, e⟩
  · rw [a]
    by_cases z : fSteps G = 0
    · rw [if_pos z]
    · obtain ⟨f, hf, hx⟩ := fX_some I (fSteps_go (G := G) (k := 0) (by omega))
      have := b f hf
      rw [(fX_th hx)] at this
      cases this
  · rw [a]
    by_cases z : fSteps G = 0
    · have := fSteps_0 I z f hf
      rw [d] at this
      cases this
    · rw [if_neg z]
      obtain ⟨j, hj, hx, e2⟩ := gLv_step I hf d
      obtain ⟨g, hg, hy⟩ := fX_some I (fSteps_go (G := G) (k := 0) (by omega))
      have h1 := b g hg (fX_th hy)
      rw [gLv_of (j := 0) (by omega) hg hy] at h1
      have h2 := fS_mono I B (j := 0) j (by omega)
      rw [Nat.zero_add] at h2
      have h3 : y = fS G (fV G 0) := by omega
      rw [h3]
theorem gmx_LG (I : IQ G) (B : IB G) : gmx (gTh G) (gLv G) 20 = gLG G := by
  unfold gLG
  rcases gmx_ok (gTh G) (gLv G) 20 with ⟨a, b⟩ | ⟨y, a, b, f, hf, d, e⟩
  · rw [a]
    by_cases z : fSteps G = 0
    · rw [if_pos z]
    · obtain ⟨f, hf, hx⟩ := fX_some I (fSteps_go (G := G) (k := 0) (by omega))
      have := b f hf
      rw [(fX_th hx)] at this
      cases this
  · rw [a]
    by_cases z : fSteps G = 0
    · have := fSteps_0 I z f hf
      rw [d] at this
      cases this
    · rw [if_neg z]
      obtain ⟨j, hj, hx, e2⟩ := gLv_step I hf d
      obtain ⟨g, hg, hy⟩ := fX_some I (fSteps_go (G := G) (k := fSteps G - 1) (by omega))
      have h1 := b g hg (fX_th hy)
      rw [gLv_of (j := fSteps G - 1) (by omega) hg hy] at h1
      have h2 := fS_mono I B (j := j) (fSteps G - 1 - j) (by omega)
      rw [show j + (fSteps G - 1 - j) = fSteps G - 1 by omega] at h2
      have h3 : y = fS G (fV G (fSteps G - 1)) := by omega
      rw [h3]
theorem gLL_le (I : IQ G) {t : Nat} (h : gLL G = some t) : t ≤ 1000000 := by
  unfold gLL at h
  by_cases z : fSteps G = 0
  · rw [if_pos z] at h; cases h
  · rw [if_neg z] at h
    have := fS_le I (fSteps_go (G := G) (k := 0) (by omega))
    have h2 := Option.some.inj h
    omega
end
section
variable {w p : Nat} {h : th_H} {G : GR} {P : Nat → Bool}
theorem c_leastLevel (R : RP p h G) (F : FWt w G h) (I : IQ G) (B : IB G) : fX2_leastLevel w p h = some (enc (gLL G), h) := by
  unfold fX2_leastLevel
  rw [← lmn_LL I B]
  refine for_up 20 (fun fu i => fX2_leastLevel_c4 w p fu (enc (lmn (gTh G) (gLv G) i)) (nI i) h) _ ?_ ?_ (by omega)
  · intro fu i hi
    have hw : h.1 (w + 1) i = nI (gLv G i) := F.2.1 i hi
    have hl := gLv_le I B i
    have el : lmn (gTh G) (gLv G) (i + 1) = if gTh G i = true then some (match lmn (gTh G) (gLv G) i with
      | none => gLv G i
      | some y => min y (gLv G i)) else lmn (gTh G) (gLv G) i := rfl
    rw [fX2_leastLevel_c4, if_pos (show nI i < (20 : Int32) from nI_lt (a := i) (b := 20) hi (by omega)), c_has R hi, e_bd, ic e_c0, nI_1, el]
    by_cases c : gTh G i = true
    · rw [if_neg (not_not_intro c), if_pos c, e_rd hi (by omega), hw]
      rcases lmn_ok (gTh G) (gLv G) i with ⟨a, b⟩ | ⟨y, a, b, f, hf, d, e⟩
      · rw [a]
        rfl
      · have hy := gLv_le I B f
        rw [a]
        show (if nI y = -1 then _ else _) = fX2_leastLevel_c4 w p fu (nI (min y (gLv G i))) (nI (i + 1)) h
        rw [if_neg (by rw [e_ne1 (by omega)]; exact id), e_rd hi (by omega), hw, show enc (some y) = nI y from rfl, ic (e_lt (show gLv G i < 2147483648 by omega) (show y < 2147483648 by omega))]
        by_cases z : gLv G i < y
        · rw [if_pos z, Nat.min_eq_right (by omega)]
        · rw [if_neg z, Nat.min_eq_left (by omega)]
    · rw [if_pos c, if_neg c]
  · intro fu
    rw [fX2_leastLevel_c4, if_neg (by decide)]
theorem c_greatLevel (R : RP p h G) (F : FWt w G h) (I : IQ G) (B : IB G) : fX2_greatestLevel w p h = some (enc (gLG G), h) := by
  unfold fX2_greatestLevel
  rw [← gmx_LG I B]
  refine for_up 20 (fun fu i => fX2_greatestLevel_c4 w p fu (enc (gmx (gTh G) (gLv G) i)) (nI i) h) _ ?_ ?_ (by omega)
  · intro fu i hi
    have hw : h.1 (w + 1) i = nI (gLv G i) := F.2.1 i hi
    have hl := gLv_le I B i
    have el : gmx (gTh G) (gLv G) (i + 1) = if gTh G i = true then some (match gmx (gTh G) (gLv G) i with
      | none => gLv G i
      | some y => max y (gLv G i)) else gmx (gTh G) (gLv G) i := rfl
    rw [fX2_greatestLevel_c4, if_pos (show nI i < (20 : Int32) from nI_lt (a := i) (b := 20) hi (by omega)), c_has R hi, e_bd, ic e_c0, nI_1, el]
    by_cases c : gTh G i = true
    · rw [if_neg (not_not_intro c), if_pos c, e_rd hi (by omega), hw]
      rcases gmx_ok (gTh G) (gLv G) i with ⟨a, b⟩ | ⟨y, a, b, f, hf, d, e⟩
      · rw [a]
        show fX2_greatestLevel_c4 w p fu (th_mx (-1) (nI (gLv G i))) (nI (i + 1)) h = fX2_greatestLevel_c4 w p fu (nI (gLv G i)) (nI (i + 1)) h
        have : (-1 : Int32) < nI (gLv G i) := by
          rw [fa_lt, nI_toInt (by omega)]
          have : (-1 : Int32).toInt = -1 := by decide
          omega
        unfold th_mx
        rw [if_pos this]
      · have hy := gLv_le I B f
        rw [a]
        show fX2_greatestLevel_c4 w p fu (th_mx (nI y) (nI (gLv G i))) (nI (i + 1)) h = fX2_greatestLevel_c4 w p fu (nI (max y (gLv G i))) (nI (i + 1)) h
        rw [e_mx (by omega) (by omega)]
    · rw [if_pos c, if_neg c]
  · intro fu
    rw [fX2_greatestLevel_c4, if_neg (by decide)]
theorem m_leastLevel (M : FM G (fSteps G) h) : fX4_leastLevel h = some (enc (gLL G), h) := by
  unfold fX4_leastLevel gLL
  have h20 : fSteps G ≤ 20 := fSteps_le
  rw [M.1, ic (e_eql (n := 0) (show fSteps G < 2147483648 by omega) (by decide))]
  by_cases z : fSteps G = 0
  · rw [if_pos z, if_pos z]
    rfl
  · rw [if_neg z, if_neg z, show (0 : Int32) = nI 0 from rfl, e_rd (show 0 < 20 by omega) (by omega), (M.2.2.1 0 (by omega)).1]
    rfl
end
theorem s_water (x : Int32) : Sp2 (fX3_water x) (fX4_water x) := by
  intro n h m hn ⟨G, R⟩
  have R0 := R.th0
  obtain ⟨h2, q2, F, R1⟩ := R0.rise
  obtain ⟨m2, q3, M, Z, R2⟩ := R1.lay
  have I := R.iq
  have B := R.2.2.1.1.2.1
  have h20 : fSteps G ≤ 20 := fSteps_le
  have c8 : h2.1 19 8 = nI (fSteps G) := F.1
  have d13 : m2.1 0 13 = nI (fSteps G) := M.1
  have v7 : h2.1 2 7 = nI (mk (gTh G) 20) := R2.rp.2.2.2.2
  have fin : ∀ r : Int32, ∃ r' h3 m3, some (r, h2) = some (r', h3) ∧ some (r, m2) = some (r', m3) ∧ Rel (n + 1) h3 m3 := fun r => ⟨_, _, _, rfl, rfl, G, R2.inc⟩
  have gr : (if nI (fSteps G) = (0 : Int32) then some ((-1 : Int32), m2) else th_rd m2 10 20 (nI (fSteps G) - 1) fun v8 => some (v8, m2)) = some (enc (gLG G), m2) := by
    rw [ic (e_eql (n := 0) (show fSteps G < 2147483648 by omega) (by decide))]
    unfold gLG
    by_cases z : fSteps G = 0
    · rw [if_pos z, if_pos z]; rfl
    · rw [if_neg z, if_neg z, e_subl (show 1 ≤ fSteps G by omega), e_rd (show fSteps G - 1 < 20 by omega) (by omega), (M.2.2.1 (fSteps G - 1) (by omega)).1]
      rfl
  unfold fX3_water fX4_water
  rw [e_st, q2, q3, e_bd, e_bd, d13, c8, v7, c_leastLevel R2.rp F I B, c_greatLevel R2.rp F I B, m_leastLevel M, c_ratesOf R2.rp F I B (fun f _ hx => hx), m_allRates R2.2.1 M I B, e_bd, e_bd, e_bd, e_bd, e_bd, gr]
  by_cases k0 : x = 0
  · rw [if_pos k0, if_pos k0]; exact fin _
  · rw [if_neg k0, if_neg k0]
    by_cases k1 : x = 1
    · rw [if_pos k1, if_pos k1]; exact fin _
    · rw [if_neg k1, if_neg k1]
      by_cases k2 : x = 2
      · rw [if_pos k2, if_pos k2]; exact fin _
      · rw [if_neg k2, if_neg k2]
        by_cases k3 : x = 3
        · rw [if_pos k3, if_pos k3]; exact fin _
        · rw [if_neg k3, if_neg k3]; exact fin _
