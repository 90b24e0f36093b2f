/-! ===== pass ===== -/
def mv (G : GR) (l : Nat) (ms : Nat → Bool) : LV := fun f => if ms f = true then some (gEls G f l) else none
def pT (G : GR) (l : Nat) (ms : Nat → Bool) : Nat := fT G (mv G l ms) l
def pN' (G : GR) (l : Nat) (ms : Nat → Bool) : Nat → Bool := fun f => ms f || (gOv G f l && decide (gEls G f l < pT G l ms))
def pM (G : GR) (l : Nat) : Nat → Nat → Bool
  | 0 => fun _ => false
  | k + 1 => pN' G l (pM G l k)
def pNew (G : GR) (l k : Nat) : Bool := an (fun f => pM G l (k + 1) f && !pM G l k f) 20
section
variable {G : GR} {l : Nat} {v : LV}
theorem cW_mono {a b : Nat} (h : a ≤ b) : cW G v l a ≤ cW G v l b := fb_sm_le (fun f _ => by
  by_cases c : gOv G f l = true
  · rw [if_pos c, if_pos c]; exact gRate_mono (by omega)
  · rw [if_neg c, if_neg c]; exact Nat.le_refl _)
theorem pw_tide {s : Nat} (hs : s ≤ 1000000) (h1 : ∀ f x, v f = some x → x ≤ s) (h2 : fW G v l s ≤ gCap G l) : gl (fun t => decide (cW G v l t ≤ gCap G l)) = fT G v l := by
  refine gl_cong (fun t ht => ?_)
  rcases Nat.lt_or_ge t s with z | z
  · have y1 : fW G v l t ≤ gCap G l := Nat.le_trans (fW_mono (by omega)) h2
    have y2 : cW G v l t ≤ fW G v l s := by
      refine fb_sm_le (fun f _ => ?_)
      by_cases c : gOv G f l = true
      · simp only [if_pos c]
        cases q : v f with
        | none => exact gRate_mono (by simp only [Option.getD_none]; omega)
        | some x => exact gRate_mono (by simp only [Option.getD_some]; omega)
      · simp only [if_neg c]
        exact Nat.le_refl _
    rw [decide_eq_true (show cW G v l t ≤ gCap G l by omega), decide_eq_true y1]
  · have : cW G v l t = fW G v l t := by
      refine fb_sm_cong (fun f _ => ?_)
      cases q : v f with
      | none => simp only [Option.getD_none]; rw [Nat.min_eq_left ht]
      | some x =>
        have := h1 f x q
        simp only [Option.getD_some]
        rw [Nat.min_eq_right (by omega)]
    rw [this]
theorem mv_t {ms : Nat → Bool} {f : Nat} (h : ms f = true) : mv G l ms f = some (gEls G f l) := by unfold mv; rw [if_pos h]
theorem mv_f {ms : Nat → Bool} {f : Nat} (h : ms f = false) : mv G l ms f = none := by unfold mv; rw [if_neg (by rw [h]; decide)]
def PJ (G : GR) (l : Nat) (ms : Nat → Bool) : Prop := (∀ f, ms f = true → gOv G f l = true ∧ gEls G f l < 1000000) ∧ ∃ s, s ≤ 1000000 ∧ (∀ f x, mv G l ms f = some x → x ≤ s) ∧ fW G (mv G l ms) l s ≤ gCap G l
theorem PJ.zero (B : IB G) (hl : l < 10) : PJ G l (fun _ => false) := by
  have e : mv G l (fun _ => false) = fun _ => none := funext (fun f => mv_f rfl)
  refine ⟨fun f z => (by cases (show false = true from z)), 0, by omega, fun f x z => ?_, ?_⟩
  · rw [e] at z; cases z
  · rw [e]; exact J0_none B l hl
theorem pN'_iff {ms : Nat → Bool} {f T : Nat} (hT : pT G l ms = T) : pN' G l ms f = true ↔ ms f = true ∨ (gOv G f l = true ∧ gEls G f l < T) := by
  unfold pN'
  rw [hT, Bool.or_eq_true, Bool.and_eq_true, decide_eq_true_eq]
theorem PJ.next {ms : Nat → Bool} (J : PJ G l ms) : PJ G l (pN' G l ms) := by
  obtain ⟨j1, s, hs, j2, j3⟩ := J
  have hT : pT G l ms ≤ 1000000 := fT_le l
  have hge : s ≤ pT G l ms := fT_ge hs j3
  have h0 : fW G (mv G l ms) l 0 ≤ gCap G l := Nat.le_trans (fW_mono (Nat.zero_le s)) j3
  have y1 : fW G (mv G l ms) l (pT G l ms) ≤ gCap G l := fT_in h0 (Nat.le_refl _)
  obtain ⟨T, hTe⟩ : ∃ T, pT G l ms = T := ⟨_, rfl⟩
  rw [hTe] at hT hge y1
  refine ⟨fun f z => ?_, T, hT, fun f x z => ?_, Nat.le_trans (fb_sm_le (fun f _ => ?_)) y1⟩
  · rcases (pN'_iff hTe).mp z with z | ⟨z1, z2⟩
    · exact j1 f z
    · exact ⟨z1, by omega⟩
  · cases c : pN' G l ms f with
    | false => rw [mv_f c] at z; cases z
    | true =>
      rw [mv_t c] at z
      have e := Option.some.inj z
      rcases (pN'_iff hTe).mp c with c | ⟨c1, c2⟩
      · have := j2 f (gEls G f l) (mv_t c)
        omega
      · omega
  · by_cases c : gOv G f l = true
    · rw [if_pos c, if_pos c]
      cases m : ms f with
      | true => rw [mv_t m, mv_t ((pN'_iff hTe).mpr (Or.inl m))]; exact Nat.le_refl _
      | false =>
        rw [mv_f m]
        cases m2 : pN' G l ms f with
        | false => rw [mv_f m2]; exact Nat.le_refl _
        | true =>
          rw [mv_t m2, Option.getD_some, Option.getD_none]
          rcases (pN'_iff hTe).mp m2 with m3 | ⟨m3, m4⟩
          · rw [m] at m3; cases m3
          · exact gRate_mono (by omega)
    · rw [if_neg c, if_neg c]; exact Nat.le_refl _
theorem pM_J (B : IB G) (hl : l < 10) : ∀ k, PJ G l (pM G l k) := by
  intro k
  induction k with
  | zero => exact PJ.zero B hl
  | succ k ih => exact ih.next
theorem pM_up {k f : Nat} (h : pM G l k f = true) : pM G l (k + 1) f = true := by
  exact (pN'_iff (ms := pM G l k) rfl).mpr (Or.inl h)
theorem pM_ct : ∀ k, (∀ j, j < k → pNew G l j = true) → k ≤ fb_ct (pM G l k) 20 := by
  intro k
  induction k with
  | zero => intro _; exact Nat.zero_le _
  | succ k ih =>
    intro h
    have h1 := ih (fun j hj => h j (by omega))
    obtain ⟨f, hf, h2⟩ := an_iff.mp (h k (by omega))
    have h3 := (Bool.and_eq_true _ _).mp h2
    have := ct_less (q := pM G l (k + 1)) (r := pM G l k) (n := 20) (k := f) (fun j _ hj => pM_up hj) hf h3.1 (by simpa using h3.2)
    omega
/-- how many passes but one -/
theorem pM_end : ∃ K, K ≤ 20 ∧ pNew G l K = false ∧ ∀ j, j < K → pNew G l j = true := by
  obtain ⟨p, hp⟩ : ∃ p : Nat → Bool, p = fun k => !pNew G l k := ⟨_, rfl⟩
  have hK : fa_first p 21 < 21 := by
    rcases Nat.lt_or_ge (fa_first p 21) 21 with z | z
    · exact z
    · exfalso
      have h1 : ∀ j, j < 21 → pNew G l j = true := fun j hj => by
        have := fa_first_no p 21 j (by omega)
        rw [hp] at this
        simpa using this
      have h2 := pM_ct 21 h1
      have h3 := fb_ct_le (pM G l 21) 20
      omega
  refine ⟨fa_first p 21, by omega, ?_, fun j hj => ?_⟩
  · have := fa_first_yes p 21 hK
    generalize fa_first p 21 = K at this ⊢
    rw [hp] at this
    simpa using this
  · have := fa_first_no p 21 j hj
    rw [hp] at this
    simpa using this
end
section
variable {n N l : Nat} {h m h2 m2 : th_H} {G : GR}
theorem RelG.scrC (R : RelG n G h m) (hc : ∀ c, c ≠ 18 → c ≠ 90 → h2.1 c = h.1 c) : RelG n G h2 m := by
  obtain ⟨rq, rm, ii, oc, fw, ⟨a, b, f1, f2, f3, f4, f5, f6, f7, f8⟩, -, -, -⟩ := id R
  have e : ∀ c, c ≠ 18 → c ≠ 90 → ∀ j, h2.1 c j = h.1 c j := fun c c1 c2 j => by rw [hc c c1 c2]
  have rq2 : RQ 1 h2 G := rq.copied (q := 1) (rq.1.off (fun c x y _ => hc c (by omega) (by omega)) (e _ (by omega) (by omega) 7)) (fun j _ => e _ (by omega) (by omega) j) (fun j _ => e _ (by omega) (by omega) j) (fun j _ => e _ (by omega) (by omega) j) (fun j _ => e _ (by omega) (by omega) j) (fun j _ => e _ (by omega) (by omega) j) (fun j _ => e _ (by omega) (by omega) j) (fun j _ => e _ (by omega) (by omega) j) (fun j _ => e _ (by omega) (by omega) j) (fun j _ _ => e _ (by omega) (by omega) j)
  refine R.next (fun c hc2 => hc c (by omega) (by omega)) rq2 rm ii (oc.keep (by rw [hc 1 (by omega) (by omega)]) (by rw [hc (1 + 1) (by omega) (by omega)]) (by rw [hc (1 + 16) (by omega) (by omega)]) (fun _ _ => rfl)) (fun z => ?_) ⟨a, b, ?_⟩ rfl rfl rfl
  · rw [hc 19 (by omega) (by omega), hc 2 (by omega) (by omega)] at z
    exact FW.cells (fw z) (fun c x y => hc c (by omega) (by omega))
  · rw [hc 2 (by omega) (by omega), hc 28 (by omega) (by omega), hc 1 (by omega) (by omega), hc 19 (by omega) (by omega), hc 27 (by omega) (by omega), hc 45 (by omega) (by omega)]
    exact ⟨f1, f2, f3, f4, f5, f6, f7, f8⟩
def lim (G : GR) (l : Nat) (ms : Nat → Bool) (f : Nat) : Nat := (mv G l ms f).getD 1000000
theorem lS_cW (ms : Nat → Bool) (t : Nat) : lS G (lim G l ms) l t = cW G (mv G l ms) l t := rfl
theorem lim_t {ms : Nat → Bool} {f : Nat} (h : ms f = true) : lim G l ms f = gEls G f l := by unfold lim; rw [mv_t h, Option.getD_some]
theorem lim_f {ms : Nat → Bool} {f : Nat} (h : ms f = false) : lim G l ms f = 1000000 := by unfold lim; rw [mv_f h, Option.getD_none]
theorem lim_cong {ms ms' : Nat → Bool} {f : Nat} (h : ms f = ms' f) : lim G l ms f = lim G l ms' f := by
  cases c : ms' f with
  | true => rw [lim_t c, lim_t (h.trans c)]
  | false => rw [lim_f c, lim_f (h.trans c)]
theorem lim_le {ms : Nat → Bool} (J : PJ G l ms) (f : Nat) : lim G l ms f ≤ 1000000 := by
  cases c : ms f with
  | true => rw [lim_t c]; have := (J.1 f c).2; omega
  | false => rw [lim_f c]; exact Nat.le_refl _
theorem c_markBelow (R : RQ 1 h G) (A : IA G) (hl : l < 10) {ms ms' : Nat → Bool} {T : Nat} (hT : T ≤ 1000000) (J1 : ∀ f, ms f = true → gOv G f l = true ∧ gEls G f l < 1000000) (hn : ∀ f, ms' f = true ↔ ms f = true ∨ (gOv G f l = true ∧ gEls G f l < T)) (hlim : ∀ f, f < 20 → h.1 18 f = nI (lim G l ms f)) : ∃ h2, fX1_markBelow 1 (nI l) (nI T) h = some (bI (an (fun f => ms' f && !ms f) 20), h2) ∧ (∀ f, f < 20 → h2.1 18 f = nI (lim G l ms' f)) ∧ (∀ c, c ≠ 18 → h2.1 c = h.1 c) := by
  have key : ∀ d i fu h1, i + d = 20 → d < fu → (∀ f, f < 20 → h1.1 18 f = nI (if f < i then lim G l ms' f else lim G l ms f)) → (∀ c, c ≠ 18 → h1.1 c = h.1 c) → ∃ h2, fX1_markBelow_c5 1 fu (nI l) (nI T) (bI (an (fun f => ms' f && !ms f) i)) (nI i) h1 = some (bI (an (fun f => ms' f && !ms f) 20), h2) ∧ (∀ f, f < 20 → h2.1 18 f = nI (lim G l ms' f)) ∧ (∀ c, c ≠ 18 → h2.1 c = h.1 c) := by
    intro d
    induction d with
    | zero =>
      intro i fu h1 hi hfu P1 P2
      obtain ⟨fu, rfl⟩ : ∃ z, fu = z + 1 := ⟨fu - 1, by omega⟩
      obtain rfl : i = 20 := by omega
      rw [fX1_markBelow_c5, if_neg (by decide), bI_gb]
      exact ⟨h1, rfl, fun f hf => by rw [P1 f hf, if_pos hf], P2⟩
    | succ d ih =>
      intro i fu h1 hi hfu P1 P2
      obtain ⟨fu, rfl⟩ : ∃ z, fu = z + 1 := ⟨fu - 1, by omega⟩
      have hi2 : i < 20 := by omega
      have e' : ∀ c, c ≠ 18 → ∀ j, h1.1 c j = h.1 c j := fun c c1 j => by rw [P2 c c1]
      have R1 : RQ 1 h1 G := R.copied (q := 1) (R.1.off (fun c x y _ => P2 c (by omega)) (e' _ (by omega) 7)) (fun j _ => e' _ (by omega) j) (fun j _ => e' _ (by omega) j) (fun j _ => e' _ (by omega) j) (fun j _ => e' _ (by omega) j) (fun j _ => e' _ (by omega) j) (fun j _ => e' _ (by omega) j) (fun j _ => e' _ (by omega) j) (fun j _ => e' _ (by omega) j) (fun j _ _ => e' _ (by omega) j)
      have ea : an (fun f => ms' f && !ms f) (i + 1) = (an (fun f => ms' f && !ms f) i || (ms' i && !ms i)) := rfl
      have hvi : h1.1 (1 + 17) i = nI (lim G l ms i) := by
        have := P1 i hi2
        rw [if_neg (show ¬ i < i by omega)] at this
        exact this
      have same : ms' i = ms i → ∀ f, f < 20 → h1.1 18 f = nI (if f < i + 1 then lim G l ms' f else lim G l ms f) := by
        intro z f hf
        rw [P1 f hf]
        by_cases w : f < i
        · rw [if_pos w, if_pos (show f < i + 1 by omega)]
        · rw [if_neg w]
          by_cases w2 : f = i
          · rw [w2, if_pos (show i < i + 1 by omega), lim_cong z]
          · rw [if_neg (show ¬ f < i + 1 by omega)]
      have stay : ms' i = ms i → ∃ h2, fX1_markBelow_c5 1 fu (nI l) (nI T) (bI (an (fun f => ms' f && !ms f) i)) (nI (i + 1)) h1 = some (bI (an (fun f => ms' f && !ms f) 20), h2) ∧ (∀ f, f < 20 → h2.1 18 f = nI (lim G l ms' f)) ∧ (∀ c, c ≠ 18 → h2.1 c = h.1 c) := by
        intro z
        have := ih (i + 1) fu h1 (by omega) (by omega) (same z) P2
        have eb : (ms' i && !ms i) = false := by rw [z]; cases ms i <;> rfl
        rw [ea, eb, Bool.or_false] at this
        exact this
      have elsw : ∃ u, fX1_elsewhere 1 (nI i) (nI l) h1 = some (nI u, h1) ∧ (gOv G i l = true → u = gEls G i l ∧ u ≤ 1000000) := by
        cases ht : gTh G i with
        | true => exact ⟨_, c_els R1 A.2.2.1 hi2 hl ht, fun _ => ⟨rfl, els_le A.2.2.1 hi2 hl ht⟩⟩
        | false =>
          refine ⟨1000000, c_elsNot R1 hi2 hl ht, fun z => ?_⟩
          unfold gOv at z
          rw [ht] at z
          cases z
      obtain ⟨u, qu, hu⟩ := elsw
      have v4 : h1.1 (1 + 1 + 2) l = nI (mk (fun f => gOv G f l) 20) := R1.1.2.1 l hl
      have m_of : ∀ b : Bool, (b = true ↔ ms i = true) → b = ms i := fun b hb => by rw [Bool.eq_iff_iff]; exact hb
      rw [fX1_markBelow_c5, if_pos (show nI i < (20 : Int32) from nI_lt (a := i) (b := 20) hi2 (by omega)), qu, e_bd, e_rd hl (by omega), v4, e_bit (mk20 _) (by omega), ic e_c0, mk20_bit _ hi2, nI_1]
      by_cases o : gOv G i l = true
      · obtain ⟨hu1, hu2⟩ := hu o
        rw [if_neg (not_not_intro o), hu1, ic (e_lt (show gEls G i l < 2147483648 by omega) (show T < 2147483648 by omega))]
        by_cases w : gEls G i l < T
        · have np : ms' i = true := (hn i).mpr (Or.inr ⟨o, w⟩)
          rw [if_pos w, e_rd hi2 (by omega), hvi]
          cases ci : ms i with
          | true =>
            have lt := (J1 i ci).2
            rw [lim_t ci, if_neg (show ¬ nI (gEls G i l) = 1000000 by
              rw [show (1000000 : Int32) = nI 1000000 from rfl, e_eq (by omega) (by omega)]
              omega)]
            exact stay (by rw [np, ci])
          | false =>
            rw [lim_f ci, if_pos (show nI 1000000 = (1000000 : Int32) from rfl), e_wr hi2 (by omega)]
            have := ih (i + 1) fu (th_up h1 (1 + 17) i (nI (gEls G i l))) (by omega) (by omega) (fun f hf => by
              rw [up_at]
              by_cases w2 : f = i
              · rw [if_pos ⟨rfl, w2⟩, w2, if_pos (show i < i + 1 by omega), lim_t np]
              · rw [if_neg (fun y => w2 y.2), P1 f hf]
                by_cases w3 : f < i
                · rw [if_pos w3, if_pos (show f < i + 1 by omega)]
                · rw [if_neg w3, if_neg (show ¬ f < i + 1 by omega)]) (fun c hc => by rw [up_cell (by omega)]; exact P2 c hc)
            rw [ea, np, ci, Bool.not_false, Bool.and_true, Bool.or_true] at this
            exact this
        · rw [if_neg w]
          refine stay (m_of _ ?_)
          rw [hn i]
          exact ⟨fun z => z.elim id (fun y => absurd y.2 w), Or.inl⟩
      · rw [if_pos o]
        refine stay (m_of _ ?_)
        rw [hn i]
        exact ⟨fun z => z.elim id (fun y => absurd y.1 o), Or.inl⟩
  unfold fX1_markBelow
  exact key 20 0 1000 h (by omega) (by omega) (fun f hf => by rw [hlim f hf, if_neg (show ¬ f < 0 by omega)]) (fun _ _ => rfl)
end
