/-! ===== letters of the reference, whole ===== -/
theorem nI_eq32 {a b : Nat} (ha : a < 4294967296) (hb : b < 4294967296) : (nI a = nI b) = (a = b) := by
  refine propext ⟨fun h => ?_, fun h => by rw [h]⟩
  have h1 := congrArg (fun x : Int32 => x.toBitVec.toNat) h
  simp only [pk_tn ha, pk_tn hb] at h1
  exact h1
/-- all that letters need -/
def IA (G : GR) : Prop := IQ G ∧ IB G ∧ IE G ∧ (∀ l, l < 10 → G (13 + l) ≤ 99) ∧ ∀ k, 23 ≤ k → k < 643 → G k < 4294967296
def okK (k : Nat) : Prop := k < 3 ∨ (13 ≤ k ∧ k < 23) ∨ 243 ≤ k ∨ ∃ f j, k = 23 + 11 * f + j ∧ 7 ≤ j ∧ j ≤ 10
section
variable {G G' : GR}
theorem IA.up (A : IA G) {k v : Nat} (hk : okK k) (hv : v ≤ 1000000 ∨ (k < 243 ∧ (v < 4294967296 ∨ k < 23))) (hl : 13 ≤ k → k < 23 → v ≤ 99) : IA (gu G k v) ∧ SP G (gu G k v) := by
  have hS : SP G (gu G k v) := SP.up hk
  refine ⟨⟨hS.IQ A.1, hS.IB A.2.1, A.2.2.1.up hS (hv.elim Or.inl (fun z => Or.inr z.1)), fun l h => ?_, fun j h1 h2 => ?_⟩, hS⟩
  · have h0 := A.2.2.2.1 l h
    unfold gu
    split
    · exact hl (by omega) (by omega)
    · exact h0
  · have h0 := A.2.2.2.2 j h1 h2
    unfold gu
    split
    · rcases hv with z | ⟨z1, z2 | z2⟩ <;> omega
    · exact h0
theorem gAdv_le (G : GR) (l : Nat) : gAdv G l ≤ 1000000 := gl_le _
theorem gForth_ok (A : IA G) {f l u : Nat} (hf : f < 20) (hl : l < 10) (hu : u ≤ 1000000) : IA (gForth G f l u).2 ∧ SP G (gForth G f l u).2 ∧ ∀ v, (gForth G f l u).1 = some v → v ≤ 1000000 := by
  have h0 := A.2.2.2.1 l hl
  obtain ⟨A1, S1⟩ := A.up (k := 243 + 10 * f + l) (v := u) (Or.inr (Or.inr (Or.inl (by omega)))) (Or.inl hu) (by omega)
  unfold gForth
  by_cases c : 0 < G (13 + l)
  · rw [if_pos c]
    obtain ⟨A2, S2⟩ := A1.up (k := 13 + l) (v := G (13 + l) - 1) (Or.inr (Or.inl (by omega))) (Or.inr (by omega)) (by omega)
    obtain ⟨A3, S3⟩ := A2.up (k := 2) (v := G 2 + 1) (Or.inl (by omega)) (Or.inr (by omega)) (by omega)
    exact ⟨A3, (S1.tr S2).tr S3, fun v hv => by cases hv⟩
  · rw [if_neg c]
    refine ⟨A1, S1, fun v hv => ?_⟩
    have := Option.some.inj hv
    omega
theorem gBack_ok (A : IA G) {f l u : Nat} (hf : f < 20) (hl : l < 10) (hu : u ≤ 1000000) : IA (gBack G f l u).2 ∧ SP G (gBack G f l u).2 ∧ (gBack G f l u).1 ≤ 1000000 := by
  obtain ⟨A1, S1⟩ := A.up (k := 443 + 10 * f + l) (v := u) (Or.inr (Or.inr (Or.inl (by omega)))) (Or.inl hu) (by omega)
  exact ⟨A1, S1, by show min u _ ≤ _; omega⟩
theorem gFw_ok {f : Nat} (hf : f < 20) : ∀ d l u (G : GR), l + d = 10 → IA G → u ≤ 1000000 → IA (gFw f d l u G).2 ∧ SP G (gFw f d l u G).2 ∧ ∀ v, (gFw f d l u G).1 = some v → v ≤ 1000000 := by
  intro d
  induction d with
  | zero =>
    intro l u G _ A hu
    exact ⟨A, SP.rf, fun v hv => by have := Option.some.inj hv; omega⟩
  | succ d ih =>
    intro l u G hl A hu
    rw [gFw]
    by_cases c : gOv G f l = true
    · rw [if_pos c]
      obtain ⟨A1, S1, h1⟩ := gForth_ok A hf (show l < 10 by omega) hu
      rcases hq : gForth G f l u with ⟨o, G1⟩
      rw [hq] at A1 S1 h1
      cases o with
      | none => exact ⟨A1, S1, fun v hv => by cases hv⟩
      | some u1 =>
        obtain ⟨A2, S2, h2⟩ := ih (l + 1) u1 G1 (by omega) A1 (h1 u1 rfl)
        exact ⟨A2, S1.tr S2, h2⟩
    · rw [if_neg c]
      exact ih (l + 1) u G (by omega) A hu
theorem gBw_ok {f : Nat} (hf : f < 20) : ∀ l v (G : GR), l ≤ 10 → IA G → v ≤ 1000000 → IA (gBw f l v G) ∧ SP G (gBw f l v G) := by
  intro l
  induction l with
  | zero => intro v G _ A _; exact ⟨A, SP.rf⟩
  | succ l ih =>
    intro v G hl A hv
    rw [gBw]
    by_cases c : gOv G f l = true
    · rw [if_pos c]
      obtain ⟨A1, S1, h1⟩ := gBack_ok A hf (show l < 10 by omega) hv
      obtain ⟨A2, S2⟩ := ih _ _ (by omega) A1 h1
      exact ⟨A2, S1.tr S2⟩
    · rw [if_neg c]
      exact ih v G (by omega) A hv
theorem gOwn_le (I : IQ G) {f : Nat} (hf : f < 20) (h : gTh G f = true) : gOwn G f ≤ 1000000 := by
  obtain ⟨-, -, a, b, c, d⟩ := (I.2 f hf).2 h
  have : gWant G f / gWt G f ≤ gWant G f := Nat.div_le_self _ _
  unfold gOwn
  omega
theorem gSend_ok (A : IA G) {f : Nat} (hf : f < 20) (ht : gTh G f = true) : IA (gSend G f) ∧ SP G (gSend G f) := by
  obtain ⟨A0, S0⟩ := A.up (k := 0) (v := G 0 + 1) (Or.inl (by omega)) (Or.inr (by omega)) (by omega)
  obtain ⟨A1, S1, h1⟩ := gFw_ok hf 10 0 (gOwn G f) (gu G 0 (G 0 + 1)) (by omega) A0 (gOwn_le A.1 hf ht)
  unfold gSend
  rcases hq : gFw f 10 0 (gOwn G f) (gu G 0 (G 0 + 1)) with ⟨o, G1⟩
  rw [hq] at A1 S1 h1
  cases o with
  | none => exact ⟨A1, S0.tr S1⟩
  | some u =>
    obtain ⟨A2, S2⟩ := A1.up (k := 23 + 11 * f + 7) (v := u) (Or.inr (Or.inr (Or.inr ⟨f, 7, rfl, by omega, by omega⟩))) (Or.inl (h1 u rfl)) (by omega)
    obtain ⟨A3, S3⟩ := gBw_ok hf 10 1000000 _ (by omega) A2 (by omega)
    exact ⟨A3, ((S0.tr S1).tr S2).tr S3⟩
end
theorem m_sends_c72 {f : Nat} (hf : f < 20) : ∀ l fu v h (G : GR), l ≤ 10 → l < fu → RM h G → IA G → v ≤ 1000000 → ∃ h2, fX4_sends_c72 fu (nI f) (nI v) (nI l + (-1)) h = some ((), h2) ∧ MF h h2 (gBw f l v G) := by
  intro l
  induction l with
  | zero =>
    intro fu v h G _ hfu R A hv
    obtain ⟨k, rfl⟩ : ∃ k, fu = k + 1 := ⟨fu - 1, by omega⟩
    exact ⟨h, by rw [fX4_sends_c72, if_pos (by decide)], MF.rf R⟩
  | succ l ih =>
    intro fu v h G hl hfu R A hv
    obtain ⟨k, rfl⟩ : ∃ k, fu = k + 1 := ⟨fu - 1, by omega⟩
    rw [pk_m1, fX4_sends_c72, if_neg (nI_pos (by omega)), m_goesOver R A.1 hf (by omega), e_bd]
    by_cases c : gOv G f l = true
    · have e : gBw f (l + 1) v G = gBw f l (gBack G f l v).1 (gBack G f l v).2 := by rw [gBw, if_pos c]
      rw [if_neg (by simp [c]), e]
      obtain ⟨A1, S1, h1⟩ := gBack_ok A hf (show l < 10 by omega) hv
      obtain ⟨h2, q, M⟩ := m_backTo R A.1 A.2.1 A.2.2.1 hf (show l < 10 by omega) hv
      rw [q, e_bd]
      obtain ⟨h3, q3, M3⟩ := ih k _ h2 _ (by omega) (by omega) M.1 A1 h1
      exact ⟨h3, q3, M.tr M3⟩
    · have e : gBw f (l + 1) v G = gBw f l v G := by rw [gBw, if_neg c]
      rw [if_pos (by simp [c]), e]
      exact ih k v h G (by omega) (by omega) R A hv
theorem m_sends_c18 {f : Nat} (hf : f < 20) : ∀ d l fu u h (G : GR), l + d = 10 → d < fu → RM h G → IA G → u ≤ 1000000 → ∃ h2, fX4_sends_c18 fu (nI f) (nI u) (nI l) h = some ((), h2) ∧ MF h h2 (gFin f (gFw f d l u G)) := by
  intro d
  induction d with
  | zero =>
    intro l fu u h G hl hfu R A hu
    obtain ⟨k, rfl⟩ : ∃ k, fu = k + 1 := ⟨fu - 1, by omega⟩
    rw [show l = 10 by omega, fX4_sends_c18, if_neg (by decide), m_at, e_bd, e_addl]
    obtain ⟨h1, q1, M1⟩ := m_wr (MF.rf R) (i := 23 + 11 * f + 7) (v := u) (k := fun h7 => fX4_sends_c72 1000 (nI f) 1000000 9 h7) (by omega)
    rw [q1]
    obtain ⟨A1, S1⟩ := A.up (k := 23 + 11 * f + 7) (v := u) (Or.inr (Or.inr (Or.inr ⟨f, 7, rfl, by omega, by omega⟩))) (Or.inl hu) (by omega)
    obtain ⟨h2, q2, M2⟩ := m_sends_c72 hf 10 1000 1000000 h1 _ (by omega) (by omega) M1.1 A1 (by omega)
    exact ⟨h2, q2, M1.tr M2⟩
  | succ d ih =>
    intro l fu u h G hl hfu R A hu
    obtain ⟨k, rfl⟩ : ∃ k, fu = k + 1 := ⟨fu - 1, by omega⟩
    rw [fX4_sends_c18, if_pos (show nI l < (10 : Int32) from nI_lt (a := l) (b := 10) (by omega) (by omega)), m_goesOver R A.1 hf (by omega), e_bd]
    by_cases c : gOv G f l = true
    · obtain ⟨A1, S1, h1⟩ := gForth_ok A hf (show l < 10 by omega) hu
      obtain ⟨h2, q, M⟩ := m_forth R A.1 A.2.1 A.2.2.1 hf (show l < 10 by omega) hu (A.2.2.2.1 l (by omega))
      have e : gFw f (d + 1) l u G = (match gForth G f l u with
        | (none, G1) => (none, G1)
        | (some u1, G1) => gFw f d (l + 1) u1 G1) := by
        rw [gFw, if_pos c]
        rfl
      rw [if_neg (by simp [c]), q, e_bd, e]
      rcases hq : gForth G f l u with ⟨o, G1⟩
      rw [hq] at A1 S1 h1 M
      cases o with
      | none => exact ⟨h2, if_pos rfl, M⟩
      | some u1 =>
        have := h1 u1 rfl
        obtain ⟨h3, q3, M3⟩ := ih (l + 1) k u1 h2 G1 (by omega) (by omega) M.1 A1 (h1 u1 rfl)
        refine ⟨h3, ?_, M.tr M3⟩
        show (if nI u1 = -1 then _ else _) = _
        rw [if_neg (by rw [e_ne1 (by omega)]; exact id), nI_1]
        exact q3
    · have e : gFw f (d + 1) l u G = gFw f d (l + 1) u G := by rw [gFw, if_neg c]
      rw [if_pos (by simp [c]), nI_1, e]
      exact ih (l + 1) k u h G (by omega) (by omega) R A hu
theorem m_sends {h : th_H} {G : GR} (R : RM h G) (A : IA G) {f : Nat} (hf : f < 20) (ht : gTh G f = true) : ∃ h2, fX4_sends (nI f) h = some ((), h2) ∧ MF h h2 (gSend G f) := by
  unfold fX4_sends gSend
  rw [show (0 : Int32) = nI 0 from rfl, m_row R (by omega), nI_1]
  obtain ⟨h1, q1, M1⟩ := m_wr (MF.rf R) (i := 0) (v := G 0 + 1) (k := fun h2 => th_bd (fX4_own (nI f) h2) fun u3 h3 => fX4_sends_c18 1000 (nI f) u3 (nI 0) h3) (by omega)
  rw [q1]
  obtain ⟨A0, S0⟩ := A.up (k := 0) (v := G 0 + 1) (Or.inl (by omega)) (Or.inr (by omega)) (by omega)
  rw [m_own M1.1 A0.1 hf (by rw [S0.th hf]; exact ht), e_bd, S0.own hf]
  obtain ⟨h2, q2, M2⟩ := m_sends_c18 hf 10 0 1000 (gOwn G f) h1 _ (by omega) (by omega) M1.1 A0 (gOwn_le A.1 hf ht)
  exact ⟨h2, q2, M1.tr M2⟩
/-! rounds -/
def gRd : Nat → GR → GR
  | 0, G => G
  | n + 1, G => if gTh G n = true ∧ gHeld G n = 0 then gSend (gRd n G) n else gRd n G
def gRound (G : GR) : GR := gu (gRd 20 G) 1 (gRd 20 G 1 + 1)
def gQuiet (G G' : GR) : Bool := al (fun k => G (243 + k) == G' (243 + k)) 400 && al (fun f => G (23 + 11 * f + 7) == G' (23 + 11 * f + 7)) 20
theorem gRd_ok {G : GR} (A : IA G) : ∀ n, n ≤ 20 → IA (gRd n G) ∧ SP G (gRd n G) := by
  intro n
  induction n with
  | zero => intro _; exact ⟨A, SP.rf⟩
  | succ n ih =>
    intro hn
    obtain ⟨A1, S1⟩ := ih (by omega)
    rw [gRd]
    by_cases c : gTh G n = true ∧ gHeld G n = 0
    · rw [if_pos c]
      obtain ⟨A2, S2⟩ := gSend_ok A1 (show n < 20 by omega) (by rw [S1.th (by omega)]; exact c.1)
      exact ⟨A2, S1.tr S2⟩
    · rw [if_neg c]
      exact ⟨A1, S1⟩
theorem gRound_ok {G : GR} (A : IA G) : IA (gRound G) ∧ SP G (gRound G) := by
  obtain ⟨A1, S1⟩ := gRd_ok A 20 (by omega)
  obtain ⟨A2, S2⟩ := A1.up (k := 1) (v := gRd 20 G 1 + 1) (Or.inl (by omega)) (Or.inr (by omega)) (by omega)
  exact ⟨A2, S1.tr S2⟩
/-- the row and the cells of a list may have changed -/
def MX (s : List Nat) (h h2 : th_H) (G : GR) : Prop := RM h2 G ∧ (∀ c, c ∉ s → c ≠ 2 → h2.1 c = h.1 c) ∧ h2.2 = h.2
theorem MF.mx {h h2 : th_H} {G : GR} (M : MF h h2 G) (s : List Nat) : MX s h h2 G := ⟨M.1, fun c _ hc => M.2.1 c hc, M.2.2⟩
theorem MX.tr {s : List Nat} {h h1 h2 : th_H} {G G' : GR} (M : MX s h h1 G) (N : MX s h1 h2 G') : MX s h h2 G' := ⟨N.1, fun c h1 hc => (N.2.1 c h1 hc).trans (M.2.1 c h1 hc), N.2.2.trans M.2.2⟩
theorem MX.rf {s : List Nat} {h : th_H} {G : GR} (R : RM h G) : MX s h h G := ⟨R, fun _ _ _ => rfl, rfl⟩
/-- what was known before the round lies in the sixth cell -/
def KN (h : th_H) (G : GR) : Prop := (∀ k, k < 400 → h.1 6 k = nI (G (243 + k))) ∧ ∀ f, f < 20 → h.1 6 (400 + f) = nI (G (23 + 11 * f + 7))
theorem m_round_c167 {h : th_H} {G G' : GR} (R : RM h G') (K : KN h G) (A : IA G) (A' : IA G') (b : Bool) : ∀ d i fu, i + d = 20 → d < fu → fX4_round_c167 fu (bI (b && al (fun f => G (23 + 11 * f + 7) == G' (23 + 11 * f + 7)) i)) (nI i) h = some (bI (b && al (fun f => G (23 + 11 * f + 7) == G' (23 + 11 * f + 7)) 20), h) := by
  refine for_from 20 (fun fu i => fX4_round_c167 fu (bI (b && al (fun f => G (23 + 11 * f + 7) == G' (23 + 11 * f + 7)) i)) (nI i) h) _ ?_ ?_
  · intro fu i hi
    have k1 := A.2.2.2.2 (23 + 11 * i + 7) (by omega) (by omega)
    have k2 := A'.2.2.2.2 (23 + 11 * i + 7) (by omega) (by omega)
    simp (disch := omega) only [fX4_round_c167, e_bd, e_st, e_addl, e_ladd, e_lmul, nI_add, nI_1, pk_mul, e_ltl, e_llt, e_eql, e_lt, e_eq, e_c0, e_c1, e_10, e_01, e_gb0, e_gb1, e_gbc, e_dv, ↓reduceIte, not_true_eq_false, not_false_eq_true, and_self, and_true, true_and, Bool.false_eq_true, Nat.reduceAdd, Nat.reduceMul, m_inl, m_at, m_lesser, m_isLink, m_areLinks, hi, e_rd, m_row R, K.2 i hi, al, bI_0]
    rw [← Bool.and_assoc]
    cases c : (b && al (fun f => G (23 + 11 * f + 7) == G' (23 + 11 * f + 7)) i)
    · rw [if_pos rfl, Bool.false_and]; rfl
    · rw [if_neg (by simp), ic (nI_eq32 k1 k2), Bool.true_and]
      by_cases q : G (23 + 11 * i + 7) = G' (23 + 11 * i + 7)
      · rw [if_pos q, q, beq_self_eq_true]; rfl
      · rw [if_neg q, beq_eq_false_iff_ne.mpr q]; rfl
  · intro fu
    simp (disch := omega) only [fX4_round_c167, e_bd, e_st, e_addl, e_ladd, e_lmul, nI_add, nI_1, pk_mul, e_ltl, e_llt, e_eql, e_lt, e_eq, e_c0, e_c1, e_10, e_01, e_gb0, e_gb1, e_gbc, e_dv, ↓reduceIte, not_true_eq_false, not_false_eq_true, and_self, and_true, true_and, Bool.false_eq_true, Nat.reduceAdd, Nat.reduceMul, m_inl, m_at, m_lesser, m_isLink, m_areLinks, Nat.lt_irrefl, bI_gb]
theorem m_round_c123 {h : th_H} {G G' : GR} (R : RM h G') (K : KN h G) (A : IA G) (A' : IA G') : fX4_round_c123 1000 1 0 h = some (bI (gQuiet G G'), h) := by
  refine for_up 400 (fun fu i => fX4_round_c123 fu (bI (al (fun k => G (243 + k) == G' (243 + k)) i)) (nI i) h) _ ?_ ?_ (by omega)
  · intro fu i hi
    have k1 := A.2.2.2.2 (243 + i) (by omega) (by omega)
    have k2 := A'.2.2.2.2 (243 + i) (by omega) (by omega)
    simp (disch := omega) only [fX4_round_c123, e_bd, e_st, e_addl, e_ladd, e_lmul, nI_add, nI_1, pk_mul, e_ltl, e_llt, e_eql, e_lt, e_eq, e_c0, e_c1, e_10, e_01, e_gb0, e_gb1, e_gbc, e_dv, ↓reduceIte, not_true_eq_false, not_false_eq_true, and_self, and_true, true_and, Bool.false_eq_true, Nat.reduceAdd, Nat.reduceMul, m_inl, m_at, m_lesser, m_isLink, m_areLinks, hi, e_rd, m_row R, K.1 i hi, al, bI_0]
    cases c : al (fun k => G (243 + k) == G' (243 + k)) i
    · rw [if_pos rfl, Bool.false_and]; rfl
    · rw [if_neg (by simp), ic (nI_eq32 k1 k2), Bool.true_and]
      by_cases q : G (243 + i) = G' (243 + i)
      · rw [if_pos q, q, beq_self_eq_true]; rfl
      · rw [if_neg q, beq_eq_false_iff_ne.mpr q]; rfl
  · intro fu
    simp (disch := omega) only [fX4_round_c123, e_bd, e_st, e_addl, e_ladd, e_lmul, nI_add, nI_1, pk_mul, e_ltl, e_llt, e_eql, e_lt, e_eq, e_c0, e_c1, e_10, e_01, e_gb0, e_gb1, e_gbc, e_dv, ↓reduceIte, not_true_eq_false, not_false_eq_true, and_self, and_true, true_and, Bool.false_eq_true, Nat.reduceAdd, Nat.reduceMul, m_inl, m_at, m_lesser, m_isLink, m_areLinks, Nat.lt_irrefl]
    have h1 := m_round_c167 R K A A' (al (fun k => G (243 + k) == G' (243 + k)) 400) 20 0 1000 (by omega) (by omega)
    have h2 : (al (fun k => G (243 + k) == G' (243 + k)) 400 && al (fun f => G (23 + 11 * f + 7) == G' (23 + 11 * f + 7)) 0) = al (fun k => G (243 + k) == G' (243 + k)) 400 := Bool.and_true _
    rw [h2] at h1
    exact h1
theorem m_round_c69 {h0 : th_H} {G : GR} (A : IA G) (K : KN h0 G) : ∀ d i fu h, i + d = 20 → d < fu → MF h0 h (gRd i G) → ∃ h2, fX4_round_c69 fu (nI i) h = some (bI (gQuiet G (gRound G)), h2) ∧ MF h0 h2 (gRound G) := by
  intro d
  induction d with
  | zero =>
    intro i fu h hi hfu M
    obtain ⟨k, rfl⟩ : ∃ k, fu = k + 1 := ⟨fu - 1, by omega⟩
    rw [show i = 20 by omega] at M ⊢
    rw [fX4_round_c69, if_neg (by decide), show (1 : Int32) = nI 1 from rfl, m_row M.1 (by omega), nI_add]
    obtain ⟨h1, q1, M1⟩ := m_wr M (i := 1) (v := gRd 20 G 1 + 1) (k := fun h9 => fX4_round_c123 1000 (nI 1) 0 h9) (by omega)
    rw [q1]
    have K1 : KN h1 G := ⟨fun k hk => by rw [M1.2.1 6 (by omega)]; exact K.1 k hk, fun f hf => by rw [M1.2.1 6 (by omega)]; exact K.2 f hf⟩
    exact ⟨h1, m_round_c123 M1.1 K1 A (gRound_ok A).1, M1⟩
  | succ d ih =>
    intro i fu h hi hfu M
    obtain ⟨k, rfl⟩ : ∃ k, fu = k + 1 := ⟨fu - 1, by omega⟩
    obtain ⟨A1, S1⟩ := gRd_ok A i (by omega)
    rw [fX4_round_c69, if_pos (show nI i < (20 : Int32) from nI_lt (a := i) (b := 20) (by omega) (by omega)), m_isFlow M.1 A1.1 (show i < 20 by omega), e_bd, S1.th (by omega)]
    have e : gRd (i + 1) G = if gTh G i = true ∧ gHeld G i = 0 then gSend (gRd i G) i else gRd i G := rfl
    by_cases c : gTh G i = true
    · have k1 := A1.2.2.2.2 (23 + 11 * i + 6) (by omega) (by omega)
      have e6 : gRd i G (23 + 11 * i + 6) = gHeld G i := S1.2 i 6 (by omega) (by omega)
      rw [if_neg (by simp [c]), m_at, e_bd, e_addl, m_row M.1 (by omega)]
      rw [e6] at k1 ⊢
      rw [show (0 : Int32) = nI 0 from rfl, ic (nI_eq32 k1 (by omega))]
      by_cases c2 : gHeld G i = 0
      · rw [if_pos c2]
        obtain ⟨h2, q2, M2⟩ := m_sends M.1 A1 (show i < 20 by omega) (by rw [S1.th (by omega)]; exact c)
        rw [q2, e_bd, nI_1]
        rw [if_pos ⟨c, c2⟩] at e
        exact ih (i + 1) k h2 (by omega) (by omega) (by rw [e]; exact M.tr M2)
      · rw [if_neg c2, nI_1]
        rw [if_neg (fun z => c2 z.2)] at e
        exact ih (i + 1) k h (by omega) (by omega) (by rw [e]; exact M)
    · rw [if_pos (by simp [c]), nI_1]
      rw [if_neg (fun z => c z.1)] at e
      exact ih (i + 1) k h (by omega) (by omega) (by rw [e]; exact M)
theorem m_round_c33 {h0 : th_H} {G : GR} (A : IA G) : ∀ d i fu h, i + d = 20 → d < fu → MX [6] h0 h G → (∀ k, k < 400 → h.1 6 k = nI (G (243 + k))) → (∀ f, f < i → h.1 6 (400 + f) = nI (G (23 + 11 * f + 7))) → ∃ h2, fX4_round_c33 fu (nI i) h = some (bI (gQuiet G (gRound G)), h2) ∧ MX [6] h0 h2 (gRound G) := by
  intro d
  induction d with
  | zero =>
    intro i fu h hi hfu M k1 k2
    obtain ⟨k, rfl⟩ : ∃ k, fu = k + 1 := ⟨fu - 1, by omega⟩
    rw [show i = 20 by omega] at k2 ⊢
    rw [fX4_round_c33, if_neg (by decide)]
    obtain ⟨h2, q, M2⟩ := m_round_c69 A ⟨k1, k2⟩ 20 0 1000 h (by omega) (by omega) (MF.rf M.1)
    exact ⟨h2, q, M.tr (M2.mx [6])⟩
  | succ d ih =>
    intro i fu h hi hfu M k1 k2
    obtain ⟨k, rfl⟩ : ∃ k, fu = k + 1 := ⟨fu - 1, by omega⟩
    simp (disch := omega) only [fX4_round_c33, e_bd, e_st, e_addl, e_ladd, e_lmul, nI_add, nI_1, pk_mul, e_ltl, e_llt, e_eql, e_lt, e_eq, e_c0, e_c1, e_10, e_01, e_gb0, e_gb1, e_gbc, e_dv, ↓reduceIte, not_true_eq_false, not_false_eq_true, and_self, and_true, true_and, Bool.false_eq_true, Nat.reduceAdd, Nat.reduceMul, m_inl, m_at, m_lesser, m_isLink, m_areLinks, show i < 20 by omega, m_row M.1, e_wr]
    refine ih (i + 1) k _ (by omega) (by omega) ⟨M.1.off (up_cell (by omega)), fun c h1 h2 => ?_, M.2.2⟩ (fun j hj => ?_) (fun f hf => ?_)
    · rw [up_cell (by simpa using h1)]
      exact M.2.1 c h1 h2
    · rw [up_at, if_neg (by omega)]
      exact k1 j hj
    · rw [up_at]
      by_cases q : f = i
      · rw [if_pos ⟨rfl, by omega⟩, q]
      · rw [if_neg (by omega)]
        exact k2 f (by omega)
theorem m_round {h : th_H} {G : GR} (R : RM h G) (A : IA G) : ∃ h2, fX4_round h = some (bI (gQuiet G (gRound G)), h2) ∧ MX [6] h h2 (gRound G) := by
  have key : ∀ d i fu h1, i + d = 400 → d < fu → MX [6] h h1 G → (∀ k, k < i → h1.1 6 k = nI (G (243 + k))) → ∃ h2, fX4_round_c2 fu (nI i) h1 = some (bI (gQuiet G (gRound G)), h2) ∧ MX [6] h h2 (gRound G) := by
    intro d
    induction d with
    | zero =>
      intro i fu h1 hi hfu M k1
      obtain ⟨k, rfl⟩ : ∃ k, fu = k + 1 := ⟨fu - 1, by omega⟩
      rw [show i = 400 by omega] at k1 ⊢
      rw [fX4_round_c2, if_neg (by decide)]
      obtain ⟨h2, q, M2⟩ := m_round_c33 A 20 0 1000 h1 (by omega) (by omega) (MX.rf M.1) k1 (fun f hf => absurd hf (by omega))
      exact ⟨h2, q, M.tr M2⟩
    | succ d ih =>
      intro i fu h1 hi hfu M k1
      obtain ⟨k, rfl⟩ : ∃ k, fu = k + 1 := ⟨fu - 1, by omega⟩
      simp (disch := omega) only [fX4_round_c2, e_bd, e_st, e_addl, e_ladd, e_lmul, nI_add, nI_1, pk_mul, e_ltl, e_llt, e_eql, e_lt, e_eq, e_c0, e_c1, e_10, e_01, e_gb0, e_gb1, e_gbc, e_dv, ↓reduceIte, not_true_eq_false, not_false_eq_true, and_self, and_true, true_and, Bool.false_eq_true, Nat.reduceAdd, Nat.reduceMul, m_inl, m_at, m_lesser, m_isLink, m_areLinks, show i < 400 by omega, m_row M.1, e_wr]
      refine ih (i + 1) k _ (by omega) (by omega) ⟨M.1.off (up_cell (by omega)), fun c h1 h2 => ?_, M.2.2⟩ (fun j hj => ?_)
      · rw [up_cell (by simpa using h1)]
        exact M.2.1 c h1 h2
      · rw [up_at]
        by_cases q : j = i
        · rw [if_pos ⟨rfl, q⟩, q]
        · rw [if_neg (by omega)]
          exact k1 j (by omega)
  exact key 400 0 1000 h (by omega) (by omega) (MX.rf R) (fun k hk => absurd hk (by omega))
