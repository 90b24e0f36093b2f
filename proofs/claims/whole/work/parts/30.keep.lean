/-! ===== letters keep what holds between calls ===== -/
def okJ (G : GR) (k v : Nat) : Prop := k < 3 ∨ (13 ≤ k ∧ k < 23 ∧ v ≤ 99) ∨ (∃ f l, f < 20 ∧ l < 10 ∧ gOv G f l = true ∧ v ≤ 1000000 ∧ (k = 243 + 10 * f + l ∨ k = 443 + 10 * f + l)) ∨ ∃ f, f < 20 ∧ k = 23 + 11 * f + 7 ∧ v ≤ 1000000
section
variable {G G' : GR}
theorem II.up (I : II G) {k v : Nat} (hk : okJ G k v) : II (gu G k v) ∧ SP G (gu G k v) := by
  have A : IA (gu G k v) ∧ SP G (gu G k v) := by
    rcases hk with c | ⟨c, d, e⟩ | ⟨f, l, hf, hl, ho, hv, e⟩ | ⟨f, hf, e, hv⟩
    · exact I.1.up (Or.inl c) (Or.inr (by omega)) (by omega)
    · exact I.1.up (Or.inr (Or.inl (by omega))) (Or.inr (by omega)) (by omega)
    · exact I.1.up (Or.inr (Or.inr (Or.inl (by omega)))) (Or.inl hv) (by omega)
    · exact I.1.up (Or.inr (Or.inr (Or.inr ⟨f, 7, e, by omega, by omega⟩))) (Or.inl hv) (by omega)
  obtain ⟨A1, S⟩ := A
  refine ⟨⟨A1, fun f g hf hg tf tg e => I.2.1 f g hf hg (by rw [← S.th hf]; exact tf) (by rw [← S.th hg]; exact tg) (by rw [← S.name hf, ← S.name hg]; exact e), fun g hg tg => ?_⟩, S⟩
  obtain ⟨i1, i2, i3, i4, i5, i6⟩ := I.2.2 g hg (by rw [← S.th hg]; exact tg)
  have w : ∀ j, 8 ≤ j → j ≤ 10 → gu G k v (23 + 11 * g + j) = G (23 + 11 * g + j) := by
    intro j h8 h10
    refine gu_ne ?_
    rcases hk with c | ⟨c, d, e⟩ | ⟨f, l, hf, hl, ho, hv, e⟩ | ⟨f, hf, e, hv⟩ <;> omega
  have w8 : gWay (gu G k v) g = gWay G g := w 8 (by omega) (by omega)
  have w9 : gWl (gu G k v) g = gWl G g := w 9 (by omega) (by omega)
  have w10 : gWh (gu G k v) g = gWh G g := w 10 (by omega) (by omega)
  rw [S.name hg, S.held hg, S.path hg, w8, w9, w10]
  refine ⟨i1, i2, ?_, i4, i5, fun l hl hb => ?_⟩
  · show gu G k v (23 + 11 * g + 7) ≤ _
    by_cases z : 23 + 11 * g + 7 = k
    · rw [← z, gu_eq]
      rcases hk with c | ⟨c, d, e⟩ | ⟨f, l, hf, hl, ho, hv, e⟩ | ⟨f, hf, e, hv⟩ <;> omega
    · rw [gu_ne z]; exact i3
  · have a : ∀ x, (x = 243 ∨ x = 443) → gu G k v (x + 10 * g + l) = G (x + 10 * g + l) := by
      intro x hx
      refine gu_ne ?_
      rcases hk with c | ⟨c, d, e⟩ | ⟨f, j, hf, hj, ho, hv, e⟩ | ⟨f, hf, e, hv⟩
      · omega
      · omega
      · intro z
        have z1 : f = g := by omega
        have z2 : j = l := by omega
        unfold gOv at ho
        rw [z1, z2, hb] at ho
        simp at ho
      · omega
    obtain ⟨j1, j2⟩ := i6 l hl hb
    exact ⟨(a 243 (Or.inl rfl)).trans j1, (a 443 (Or.inr rfl)).trans j2⟩
theorem gForth_ii (I : II G) {f l u : Nat} (hf : f < 20) (hl : l < 10) (ho : gOv G f l = true) (hu : u ≤ 1000000) : II (gForth G f l u).2 := by
  obtain ⟨I1, S1⟩ := I.up (k := 243 + 10 * f + l) (v := u) (Or.inr (Or.inr (Or.inl ⟨f, l, hf, hl, ho, hu, Or.inl rfl⟩)))
  unfold gForth
  by_cases c : 0 < G (13 + l)
  · rw [if_pos c]
    have := I.1.2.2.2.1 l hl
    obtain ⟨I2, S2⟩ := I1.up (k := 13 + l) (v := G (13 + l) - 1) (Or.inr (Or.inl (by omega)))
    exact (I2.up (Or.inl (by omega))).1
  · rw [if_neg c]
    exact I1
theorem gFw_ii {f : Nat} (hf : f < 20) : ∀ d l u (G : GR), l + d = 10 → II G → u ≤ 1000000 → II (gFw f d l u G).2 := by
  intro d
  induction d with
  | zero => intro l u G _ I _; exact I
  | succ d ih =>
    intro l u G hl I hu
    rw [gFw]
    by_cases c : gOv G f l = true
    · rw [if_pos c]
      have I1 := gForth_ii I hf (show l < 10 by omega) c hu
      have h1 := (gForth_ok I.1 hf (show l < 10 by omega) hu).2.2
      rcases hq : gForth G f l u with ⟨o, G1⟩
      rw [hq] at I1 h1
      cases o with
      | none => exact I1
      | some u1 => exact ih (l + 1) u1 G1 (by omega) I1 (h1 u1 rfl)
    · rw [if_neg c]
      exact ih (l + 1) u G (by omega) I hu
theorem gBw_ii {f : Nat} (hf : f < 20) : ∀ l v (G : GR), l ≤ 10 → II G → v ≤ 1000000 → II (gBw f l v G) := by
  intro l
  induction l with
  | zero => intro v G _ I _; exact I
  | succ l ih =>
    intro v G hl I hv
    rw [gBw]
    by_cases c : gOv G f l = true
    · rw [if_pos c]
      exact ih _ _ (by omega) (I.up (k := 443 + 10 * f + l) (v := v) (Or.inr (Or.inr (Or.inl ⟨f, l, hf, by omega, c, hv, Or.inr rfl⟩)))).1 (gBack_ok I.1 hf (show l < 10 by omega) hv).2.2
    · rw [if_neg c]
      exact ih v G (by omega) I hv
theorem gSend_ii (I : II G) {f : Nat} (hf : f < 20) (ht : gTh G f = true) : II (gSend G f) := by
  obtain ⟨I0, S0⟩ := I.up (k := 0) (v := G 0 + 1) (Or.inl (by omega))
  have I1 := gFw_ii hf 10 0 (gOwn G f) (gu G 0 (G 0 + 1)) (by omega) I0 (gOwn_le I.1.1 hf ht)
  obtain ⟨-, -, h1⟩ := gFw_ok hf 10 0 (gOwn G f) (gu G 0 (G 0 + 1)) (by omega) I0.1 (gOwn_le I.1.1 hf ht)
  unfold gSend
  rcases hq : gFw f 10 0 (gOwn G f) (gu G 0 (G 0 + 1)) with ⟨o, G1⟩
  rw [hq] at I1 h1
  cases o with
  | none => exact I1
  | some u => exact gBw_ii hf 10 1000000 _ (by omega) (I1.up (k := 23 + 11 * f + 7) (v := u) (Or.inr (Or.inr (Or.inr ⟨f, hf, rfl, h1 u rfl⟩)))).1 (by omega)
theorem gRd_ii (I : II G) : ∀ n, n ≤ 20 → II (gRd n G) := by
  intro n
  induction n with
  | zero => intro _; exact I
  | succ n ih =>
    intro hn
    have I1 := ih (by omega)
    rw [gRd]
    by_cases c : gTh G n = true ∧ gHeld G n = 0
    · rw [if_pos c]
      exact gSend_ii I1 (show n < 20 by omega) (by rw [(gRd_ok I.1 n (by omega)).2.th (by omega)]; exact c.1)
    · rw [if_neg c]
      exact I1
theorem gRound_ii (I : II G) : II (gRound G) := ((gRd_ii I 20 (by omega)).up (k := 1) (v := gRd 20 G 1 + 1) (Or.inl (by omega))).1
end
