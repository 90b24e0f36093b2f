/-! ===== FAIR, in numbers ===== -/
abbrev LV : Type := Nat → Option Nat
def fOp (G : GR) (v : LV) (f : Nat) : Bool := gTh G f && (v f).isNone
def fW (G : GR) (v : LV) (l t : Nat) : Nat := fb_sm (fun f => if gOv G f l = true then gRate G f ((v f).getD t) else 0) 20
def fOpL (G : GR) (v : LV) (l : Nat) : Bool := an (fun f => gOv G f l && (v f).isNone) 20
def fT (G : GR) (v : LV) (l : Nat) : Nat := gl (fun t => decide (fW G v l t ≤ gCap G l))
def fML (G : GR) (v : LV) : Nat → Nat
  | 0 => 1000001
  | n + 1 => if fOpL G v n = true then min (fML G v n) (fT G v n) else fML G v n
def fMF (G : GR) (v : LV) : Nat → Nat
  | 0 => fML G v 10
  | n + 1 => if fOp G v n = true then min (fMF G v n) (gOwn G n) else fMF G v n
def fS (G : GR) (v : LV) : Nat := fMF G v 20
def fK (G : GR) (v : LV) (l : Nat) : Bool := fOpL G v l && fT G v l == fS G v
def fX (G : GR) (v : LV) (f : Nat) : Bool := fOp G v f && (an (fun l => (gPath G f).testBit l && fK G v l) 10 || gOwn G f == fS G v)
def fN (G : GR) (v : LV) : LV := fun f => if f < 20 ∧ fX G v f = true then some (fS G v) else v f
def fV (G : GR) : Nat → LV
  | 0 => fun _ => none
  | k + 1 => fN G (fV G k)
def fAny (G : GR) (v : LV) : Bool := an (fOp G v) 20
def fSteps (G : GR) : Nat := fa_first (fun k => !fAny G (fV G k)) 20
def fWit (G : GR) (v : LV) (f : Nat) : Nat := fa_first (fun l => (gPath G f).testBit l && fK G v l) 10
def fLev (G : GR) (f : Nat) : Nat := (fV G 20 f).getD 1000000
def fStepOf (G : GR) (f : Nat) : Nat := fa_first (fun k => (fV G (k + 1) f).isSome) 20
theorem gl_ge {p : Nat → Bool} (hp : ∀ a b, a ≤ b → p b = true → p a = true) {t : Nat} (ht : t ≤ 1000000) (h : p t = true) : t ≤ gl p := by
  rcases Nat.lt_or_ge (gl p) t with z | z
  · have h1 := gl_out (show gl p < 1000000 by omega)
    rw [hp (gl p + 1) t (by omega) h] at h1
    cases h1
  · exact z
section
variable {G : GR} {v : LV}
theorem fW_mono {l a b : Nat} (h : a ≤ b) : fW G v l a ≤ fW G v l b := by
  refine fb_sm_le (fun f _ => ?_)
  by_cases c : gOv G f l = true
  · simp only [if_pos c]
    cases v f with
    | none => exact gRate_mono h
    | some x => exact Nat.le_refl _
  · simp only [if_neg c]
    exact Nat.le_refl _
theorem fT_anti (l : Nat) : ∀ a b, a ≤ b → decide (fW G v l b ≤ gCap G l) = true → decide (fW G v l a ≤ gCap G l) = true := by
  intro a b hab hb
  have := fW_mono (G := G) (v := v) (l := l) hab
  simp only [decide_eq_true_eq] at hb ⊢
  omega
theorem fT_in {l t : Nat} (h0 : fW G v l 0 ≤ gCap G l) (h : t ≤ fT G v l) : fW G v l t ≤ gCap G l := by
  have h1 := gl_in (p := fun t => decide (fW G v l t ≤ gCap G l)) (by simpa using h0)
  have h2 := fT_anti l t (fT G v l) h h1
  simpa using h2
theorem fT_ge {l t : Nat} (ht : t ≤ 1000000) (h : fW G v l t ≤ gCap G l) : t ≤ fT G v l := gl_ge (fT_anti l) ht (by simpa using h)
theorem fT_le (l : Nat) : fT G v l ≤ 1000000 := gl_le _
theorem fML_le : ∀ n l, l < n → fOpL G v l = true → fML G v n ≤ fT G v l := by
  intro n
  induction n with
  | zero => intro l h; exact absurd h (Nat.not_lt_zero l)
  | succ n ih =>
    intro l h hl
    rw [fML]
    rcases Nat.lt_or_ge l n with z | z
    · have := ih l z hl
      split <;> omega
    · have e : l = n := by omega
      subst e
      rw [if_pos hl]
      omega
theorem fML_at : ∀ n, fML G v n = 1000001 ∨ ∃ l, l < n ∧ fOpL G v l = true ∧ fT G v l = fML G v n := by
  intro n
  induction n with
  | zero => exact Or.inl rfl
  | succ n ih =>
    rw [fML]
    by_cases c : fOpL G v n = true
    · rw [if_pos c]
      rcases Nat.lt_or_ge (fML G v n) (fT G v n) with z | z
      · rw [Nat.min_eq_left (by omega)]
        rcases ih with h | ⟨l, h1, h2, h3⟩
        · have := fT_le (G := G) (v := v) n
          omega
        · exact Or.inr ⟨l, by omega, h2, h3⟩
      · exact Or.inr ⟨n, by omega, c, by omega⟩
    · rw [if_neg c]
      rcases ih with h | ⟨l, h1, h2, h3⟩
      · exact Or.inl h
      · exact Or.inr ⟨l, by omega, h2, h3⟩
theorem fMF_le : ∀ n f, f < n → fOp G v f = true → fMF G v n ≤ gOwn G f := by
  intro n
  induction n with
  | zero => intro l h; exact absurd h (Nat.not_lt_zero l)
  | succ n ih =>
    intro f h hf
    rw [fMF]
    rcases Nat.lt_or_ge f n with z | z
    · have := ih f z hf
      split <;> omega
    · have e : f = n := by omega
      subst e
      rw [if_pos hf]
      omega
theorem fMF_ml : ∀ n, fMF G v n ≤ fML G v 10 := by
  intro n
  induction n with
  | zero => exact Nat.le_refl _
  | succ n ih => rw [fMF]; split <;> omega
theorem fMF_at : ∀ n, fMF G v n = fML G v 10 ∨ ∃ f, f < n ∧ fOp G v f = true ∧ gOwn G f = fMF G v n := by
  intro n
  induction n with
  | zero => exact Or.inl rfl
  | succ n ih =>
    rw [fMF]
    by_cases c : fOp G v n = true
    · rw [if_pos c]
      rcases Nat.lt_or_ge (fMF G v n) (gOwn G n) with z | z
      · rw [Nat.min_eq_left (by omega)]
        rcases ih with h | ⟨l, h1, h2, h3⟩
        · exact Or.inl h
        · exact Or.inr ⟨l, by omega, h2, h3⟩
      · exact Or.inr ⟨n, by omega, c, by omega⟩
    · rw [if_neg c]
      rcases ih with h | ⟨l, h1, h2, h3⟩
      · exact Or.inl h
      · exact Or.inr ⟨l, by omega, h2, h3⟩
theorem fS_tide {l : Nat} (hl : l < 10) (h : fOpL G v l = true) : fS G v ≤ fT G v l := Nat.le_trans (fMF_ml 20) (fML_le 10 l hl h)
theorem fS_own {f : Nat} (hf : f < 20) (h : fOp G v f = true) : fS G v ≤ gOwn G f := fMF_le 20 f hf h
theorem fOp_th {f : Nat} (h : fOp G v f = true) : gTh G f = true ∧ v f = none := by
  simpa [fOp] using h
theorem fAny_iff : fAny G v = true ↔ ∃ f, f < 20 ∧ fOp G v f = true := an_iff
theorem fS_le (I : IQ G) (h : fAny G v = true) : fS G v ≤ 1000000 := by
  obtain ⟨f, hf, h1⟩ := fAny_iff.mp h
  exact Nat.le_trans (fS_own hf h1) (gOwn_le I hf (fOp_th h1).1)
theorem fX_some (I : IQ G) (h : fAny G v = true) : ∃ f, f < 20 ∧ fX G v f = true := by
  have h0 := fS_le I h
  rcases fMF_at (G := G) (v := v) 20 with h1 | ⟨f, h1, h2, h3⟩
  · rcases fML_at (G := G) (v := v) 10 with h4 | ⟨l, h5, h6, h7⟩
    · unfold fS at h0
      omega
    · obtain ⟨f, hf, h8⟩ := an_iff.mp h6
      have h9 : gOv G f l = true ∧ v f = none := by simpa using h8
      have h10 : gTh G f = true ∧ (gPath G f).testBit l = true := by simpa [gOv] using h9.1
      have hK : fK G v l = true := by
        unfold fK
        rw [h6, h7, ← h1]
        simp [fS]
      refine ⟨f, hf, ?_⟩
      have hA : an (fun l => (gPath G f).testBit l && fK G v l) 10 = true := an_iff.mpr ⟨l, h5, by simp [h10.2, hK]⟩
      simp [fX, fOp, h10.1, h9.2, hA]
  · refine ⟨f, h1, ?_⟩
    unfold fX
    rw [h2]
    have : gOwn G f = fS G v := h3
    simp [this]
theorem fN_op {f : Nat} (hf : f < 20) : fOp G (fN G v) f = (fOp G v f && !fX G v f) := by
  unfold fOp fN
  by_cases c : fX G v f = true
  · rw [if_pos ⟨hf, c⟩, c]
    simp
  · rw [if_neg (fun z => c z.2)]
    have c2 : fX G v f = false := by simpa using c
    rw [c2]
    simp
theorem fX_op {f : Nat} (h : fX G v f = true) : fOp G v f = true := by
  unfold fX at h
  simp only [Bool.and_eq_true] at h
  exact h.1
theorem fN_ct : fb_ct (fOp G (fN G v)) 20 + fb_ct (fX G v) 20 = fb_ct (fOp G v) 20 := by
  have h := fb_ct_or (p := fun f => fOp G v f && !fX G v f) (q := fX G v) (n := 20) (fun k _ h => by
    have h1 := h.1
    rw [h.2] at h1
    simp at h1)
  rw [fb_ct_cong (q := fun f => fOp G v f && !fX G v f) (fun k hk => fN_op hk), ← h]
  refine fb_ct_cong (fun k _ => ?_)
  cases c : fX G v k
  · simp
  · simp [fX_op c]
theorem fN_stop (h : fAny G v = false) : fN G v = v := by
  funext f
  unfold fN
  rw [if_neg]
  rintro ⟨h1, h2⟩
  have : fAny G v = true := fAny_iff.mpr ⟨f, h1, fX_op h2⟩
  rw [h] at this
  cases this
theorem fV_ct (I : IQ G) : ∀ k, k ≤ 20 → fb_ct (fOp G (fV G k)) 20 ≤ 20 - k := by
  intro k
  induction k with
  | zero => intro _; exact fb_ct_le _ 20
  | succ k ih =>
    intro hk
    have h1 := ih (by omega)
    rw [fV]
    have h2 := fN_ct (G := G) (v := fV G k)
    by_cases c : fAny G (fV G k) = true
    · obtain ⟨f, hf, h3⟩ := fX_some I c
      have h4 : 0 < fb_ct (fX G (fV G k)) 20 := fb_ct_pos.mpr ⟨f, hf, h3⟩
      omega
    · have c2 : fAny G (fV G k) = false := by simpa using c
      rw [fN_stop c2]
      have h3 : fb_ct (fOp G (fV G k)) 20 = 0 := by
        rw [fb_ct_zero]
        intro f hf
        cases q : fOp G (fV G k) f
        · rfl
        · exact absurd (fAny_iff.mpr ⟨f, hf, q⟩) c
      omega
theorem fV_end (I : IQ G) : fAny G (fV G 20) = false := by
  have h := fV_ct I 20 (by omega)
  cases c : fAny G (fV G 20)
  · rfl
  · obtain ⟨f, hf, h1⟩ := fAny_iff.mp c
    have : 0 < fb_ct (fOp G (fV G 20)) 20 := fb_ct_pos.mpr ⟨f, hf, h1⟩
    omega
theorem fSteps_le : fSteps G ≤ 20 := fa_first_le _ _
theorem fSteps_end (I : IQ G) : fAny G (fV G (fSteps G)) = false := by
  rcases Nat.lt_or_ge (fSteps G) 20 with h | h
  · have h1 : (!fAny G (fV G (fSteps G))) = true := fa_first_yes (fun k => !fAny G (fV G k)) 20 h
    simpa using h1
  · have : fSteps G = 20 := by have := fSteps_le (G := G); omega
    rw [this]
    exact fV_end I
theorem fSteps_go {k : Nat} (h : k < fSteps G) : fAny G (fV G k) = true := by
  have h1 := fa_first_no (fun k => !fAny G (fV G k)) 20 k h
  simpa using h1
theorem fV_stay {m : Nat} (hm : fAny G (fV G m) = false) : ∀ d, fV G (m + d) = fV G m := by
  intro d
  induction d with
  | zero => rfl
  | succ d ih =>
    rw [← Nat.add_assoc, fV, ih]
    exact fN_stop hm
theorem fV_20 (I : IQ G) : fV G 20 = fV G (fSteps G) := by
  have h0 := fSteps_end I
  have h1 := fSteps_le (G := G)
  generalize fSteps G = m at h0 h1 ⊢
  have h := fV_stay h0 (20 - m)
  rw [show m + (20 - m) = 20 by omega] at h
  exact h
/-- before a step: links are not too full at 0 -/
def J0 (G : GR) (v : LV) : Prop := ∀ l, l < 10 → fW G v l 0 ≤ gCap G l
/-- behind a step of level s -/
def JS (G : GR) (v : LV) (s : Nat) : Prop := (∀ f x, v f = some x → x ≤ s) ∧ (∀ l, l < 10 → fW G v l s ≤ gCap G l) ∧ (∀ f, f < 20 → fOp G v f = true → s < gOwn G f) ∧ ∀ l, l < 10 → fOpL G v l = true → s < fT G v l
theorem JS.j0 {s : Nat} (h : JS G v s) : J0 G v := fun l hl => Nat.le_trans (fW_mono (Nat.zero_le s)) (h.2.1 l hl)
theorem J0_none (B : IB G) : J0 G (fun _ => none) := by
  intro l hl
  have : fW G (fun _ => none) l 0 = gBnd G l := by
    refine fb_sm_cong (fun f _ => ?_)
    by_cases c : gOv G f l = true
    · simp only [if_pos c]
      simp [gRate]
    · simp only [if_neg c]
  rw [this]
  exact B l hl
theorem JS.lt {s : Nat} (I : IQ G) (h : JS G v s) (ha : fAny G v = true) : s < fS G v := by
  have h0 := fS_le I ha
  rcases fMF_at (G := G) (v := v) 20 with h1 | ⟨f, h1, h2, h3⟩
  · rcases fML_at (G := G) (v := v) 10 with h4 | ⟨l, h5, h6, h7⟩
    · unfold fS at h0; omega
    · have := h.2.2.2 l h5 h6
      unfold fS
      omega
  · have := h.2.2.1 f h1 h2
    unfold fS
    omega
/-- no open flow at a link: the water there stays -/
theorem fW_shut {l : Nat} (h : fOpL G v l = false) (a b : Nat) : fW G v l a = fW G v l b := by
  refine fb_sm_cong (fun f hf => ?_)
  by_cases c : gOv G f l = true
  · simp only [if_pos c]
    cases q : v f with
    | none =>
      have : fOpL G v l = true := an_iff.mpr ⟨f, hf, by simp [c, q]⟩
      rw [h] at this
      cases this
    | some x => rfl
  · simp only [if_neg c]
theorem JS_next (I : IQ G) (h0 : J0 G v) (hle : ∀ f x, v f = some x → x ≤ fS G v) (ha : fAny G v = true) : JS G (fN G v) (fS G v) := by
  have hs := fS_le I ha
  have hA : ∀ l, l < 10 → fW G v l (fS G v) ≤ gCap G l := by
    intro l hl
    cases c : fOpL G v l
    · rw [fW_shut c (fS G v) 0]
      exact h0 l hl
    · exact fT_in (h0 l hl) (fS_tide hl c)
  have hB : ∀ l, fW G (fN G v) l (fS G v) = fW G v l (fS G v) := by
    intro l
    refine fb_sm_cong (fun f hf => ?_)
    by_cases c : gOv G f l = true
    · simp only [if_pos c]
      unfold fN
      by_cases q : f < 20 ∧ fX G v f = true
      · rw [if_pos q, (fOp_th (fX_op q.2)).2]
        rfl
      · rw [if_neg q]
    · simp only [if_neg c]
  have hop : ∀ f, f < 20 → fOp G (fN G v) f = true → fOp G v f = true ∧ fX G v f = false := by
    intro f hf h1
    rw [fN_op hf] at h1
    simpa using h1
  refine ⟨fun f x hx => ?_, fun l hl => by rw [hB l]; exact hA l hl, fun f hf h1 => ?_, fun l hl h1 => ?_⟩
  · unfold fN at hx
    by_cases q : f < 20 ∧ fX G v f = true
    · rw [if_pos q] at hx
      have := Option.some.inj hx
      omega
    · rw [if_neg q] at hx
      exact hle f x hx
  · obtain ⟨h2, h3⟩ := hop f hf h1
    have h4 := fS_own hf h2
    have h5 : gOwn G f ≠ fS G v := fun e => by
      have : fX G v f = true := by simp [fX, h2, e]
      rw [h3] at this
      cases this
    omega
  · obtain ⟨f, hf, h2⟩ := an_iff.mp h1
    have h3 : gOv G f l = true ∧ fN G v f = none := by simpa using h2
    have h4 : gTh G f = true ∧ (gPath G f).testBit l = true := by simpa [gOv] using h3.1
    obtain ⟨h5, h6⟩ := hop f hf (by simp [fOp, h4.1, h3.2])
    have h7 := (fOp_th h5).2
    have h8 : fOpL G v l = true := an_iff.mpr ⟨f, hf, by simp [h3.1, h7]⟩
    have h9 := fS_tide hl h8
    have h10 : fT G v l ≠ fS G v := fun e => by
      have hK : fK G v l = true := by simp [fK, h8, e]
      have hA : an (fun l => (gPath G f).testBit l && fK G v l) 10 = true := an_iff.mpr ⟨l, hl, by simp [h4.2, hK]⟩
      have : fX G v f = true := by simp [fX, h5, hA]
      rw [h6] at this
      cases this
    have h11 := fT_le (G := G) (v := v) l
    have h12 : fW G v l (fS G v + 1) ≤ gCap G l := fT_in (h0 l hl) (by omega)
    have h13 : fW G (fN G v) l (fS G v + 1) ≤ fW G v l (fS G v + 1) := by
      refine fb_sm_le (fun f hf => ?_)
      by_cases c : gOv G f l = true
      · simp only [if_pos c]
        unfold fN
        by_cases q : f < 20 ∧ fX G v f = true
        · rw [if_pos q, (fOp_th (fX_op q.2)).2]
          exact gRate_mono (Nat.le_succ _)
        · rw [if_neg q]
          exact Nat.le_refl _
      · simp only [if_neg c]
        exact Nat.le_refl _
    have h14 := fT_ge (G := G) (v := fN G v) (l := l) (t := fS G v + 1) (by omega) (by omega)
    omega
theorem fV_J0 (I : IQ G) (B : IB G) : ∀ k, k ≤ fSteps G → J0 G (fV G k) ∧ (k = 0 ∨ ∃ j, k = j + 1 ∧ JS G (fV G k) (fS G (fV G j))) := by
  intro k
  induction k with
  | zero => intro _; exact ⟨J0_none B, Or.inl rfl⟩
  | succ k ih =>
    intro hk
    obtain ⟨h0, h1⟩ := ih (by omega)
    have ha := fSteps_go (G := G) (k := k) (by omega)
    have hle : ∀ f x, fV G k f = some x → x ≤ fS G (fV G k) := by
      rcases h1 with rfl | ⟨j, rfl, hJ⟩
      · intro f x hx; cases hx
      · intro f x hx
        have := hJ.1 f x hx
        have := hJ.lt I ha
        omega
    have := JS_next I h0 hle ha
    exact ⟨this.j0, Or.inr ⟨k, rfl, this⟩⟩
theorem fS_up (I : IQ G) (B : IB G) {k : Nat} (h : k + 1 < fSteps G) : fS G (fV G k) < fS G (fV G (k + 1)) := by
  obtain ⟨-, h1⟩ := fV_J0 I B (k + 1) (by omega)
  rcases h1 with h1 | ⟨j, h2, hJ⟩
  · omega
  · have e : j = k := by omega
    subst e
    exact hJ.lt I (fSteps_go h)
/-- the class's way: who is fixed has a limit -/
def cW (G : GR) (v : LV) (l t : Nat) : Nat := fb_sm (fun f => if gOv G f l = true then gRate G f (min t ((v f).getD 1000000)) else 0) 20
theorem cW_tide (h : (∀ f, v f = none) ∨ ∃ s, s ≤ 1000000 ∧ JS G v s) {l : Nat} (hl : l < 10) : gl (fun t => decide (cW G v l t ≤ gCap G l)) = fT G v l := by
  refine gl_cong (fun t ht => ?_)
  rcases h with h | ⟨s, hs, hJ⟩
  · have : cW G v l t = fW G v l t := by
      refine fb_sm_cong (fun f _ => ?_)
      rw [h f]
      simp only [Option.getD_none]
      rw [Nat.min_eq_left ht]
    rw [this]
  · rcases Nat.lt_or_ge t s with z | z
    · have h1 : fW G v l t ≤ gCap G l := Nat.le_trans (fW_mono (by omega)) (hJ.2.1 l hl)
      have h2 : cW G v l t ≤ fW G v l s := by
        refine fb_sm_le (fun f _ => ?_)
        by_cases c : gOv G f l = true
        · simp only [if_pos c]
          cases q : v f with
          | none => exact gRate_mono (by simp only [Option.getD_none]; omega)
          | some x => exact gRate_mono (by simp only [Option.getD_some]; omega)
        · simp only [if_neg c]
          exact Nat.le_refl _
      have h3 := hJ.2.1 l hl
      rw [decide_eq_true (show cW G v l t ≤ gCap G l by omega), decide_eq_true h1]
    · have : cW G v l t = fW G v l t := by
        refine fb_sm_cong (fun f _ => ?_)
        cases q : v f with
        | none => simp only [Option.getD_none]; rw [Nat.min_eq_left ht]
        | some x =>
          have := hJ.1 f x q
          simp only [Option.getD_some]
          rw [Nat.min_eq_right (by omega)]
      rw [this]
end
