/-! ===== pass, both sides ===== -/
section
variable {n N l : Nat} {h m h2 m2 : th_H} {G : GR}
theorem lS_0 (lm : Nat → Nat) : lS G lm l 0 = gBnd G l := fb_sm_cong (fun f _ => by
  by_cases c : gOv G f l = true
  · rw [if_pos c, if_pos c, Nat.zero_min]
    unfold gRate
    rw [Nat.mul_zero, Nat.zero_max]
  · rw [if_neg c, if_neg c])
theorem c_findMarks (R : RQ 1 h G) (A : IA G) (hl : l < 10) {K : Nat} (hK : K ≤ 20) (k0 : pNew G l K = false) (k1 : ∀ j, j < K → pNew G l j = true) : ∃ h2, fX1_findMarks 1 90 (nI l) h = some (nI (K + 1), h2) ∧ (∀ j, j ≤ K → h2.1 90 j = nI (pT G l (pM G l j))) ∧ (∀ c, c ≠ 18 → c ≠ 90 → h2.1 c = h.1 c) := by
  have key : ∀ d k fu h1, k + d = K → d + 1 < fu → (∀ f, f < 20 → h1.1 18 f = nI (lim G l (pM G l k) f)) → (∀ j, j < k → h1.1 90 j = nI (pT G l (pM G l j))) → (∀ c, c ≠ 18 → c ≠ 90 → h1.1 c = h.1 c) → ∃ h2, fX1_findMarks_c14 1 90 fu (nI l) (nI k) 1 h1 = some (nI (K + 1), h2) ∧ (∀ j, j ≤ K → h2.1 90 j = nI (pT G l (pM G l j))) ∧ (∀ c, c ≠ 18 → c ≠ 90 → h2.1 c = h.1 c) := by
    have step : ∀ k fu h1, k ≤ K → (∀ f, f < 20 → h1.1 18 f = nI (lim G l (pM G l k) f)) → (∀ j, j < k → h1.1 90 j = nI (pT G l (pM G l j))) → (∀ c, c ≠ 18 → c ≠ 90 → h1.1 c = h.1 c) → ∃ h2, fX1_findMarks_c14 1 90 (fu + 1) (nI l) (nI k) 1 h1 = fX1_findMarks_c14 1 90 fu (nI l) (nI (k + 1)) (bI (pNew G l k)) h2 ∧ (∀ f, f < 20 → h2.1 18 f = nI (lim G l (pM G l (k + 1)) f)) ∧ (∀ j, j < k + 1 → h2.1 90 j = nI (pT G l (pM G l j))) ∧ (∀ c, c ≠ 18 → c ≠ 90 → h2.1 c = h.1 c) := by
      intro k fu h1 hk P1 P2 P3
      have J := pM_J A.2.1 hl k
      have e' : ∀ c, c ≠ 18 → c ≠ 90 → ∀ j, h1.1 c j = h.1 c j := fun c c1 c2 j => by rw [P3 c c1 c2]
      have R1 : RQ 1 h1 G := R.copied (q := 1) (R.1.off (fun c x y _ => P3 c (by omega) (by omega)) (e' _ (by omega) (by omega) 7)) (fun j _ => e' _ (by omega) (by omega) j) (fun j _ => e' _ (by omega) (by omega) j) (fun j _ => e' _ (by omega) (by omega) j) (fun j _ => e' _ (by omega) (by omega) j) (fun j _ => e' _ (by omega) (by omega) j) (fun j _ => e' _ (by omega) (by omega) j) (fun j _ => e' _ (by omega) (by omega) j) (fun j _ => e' _ (by omega) (by omega) j) (fun j _ _ => e' _ (by omega) (by omega) j)
      have hg := c_greatestLevel (lim := lim G l (pM G l k)) (a := 1 + 17) R1.1 A.1 hl (fun f hf _ => ⟨P1 f hf, lim_le J f⟩) (by rw [lS_0]; exact A.2.1 l hl)
      have eg : gl (fun t => decide (lS G (lim G l (pM G l k)) l t ≤ gCap G l)) = pT G l (pM G l k) := by
        obtain ⟨-, s, hs, j2, j3⟩ := J
        exact pw_tide hs j2 j3
      have hT : pT G l (pM G l k) ≤ 1000000 := fT_le l
      rw [eg] at hg
      obtain ⟨T, hTe⟩ : ∃ T, pT G l (pM G l k) = T := ⟨_, rfl⟩
      rw [hTe] at hg hT
      have R4 : RQ 1 (th_up h1 90 k (nI T)) G := R1.cells (fun c x y => up_cell (by omega))
      obtain ⟨h5, q5, a5, b5⟩ := c_markBelow (ms := pM G l k) (ms' := pM G l (k + 1)) (T := T) R4 A hl hT J.1 (fun f => pN'_iff hTe) (fun f hf => by rw [up_cell (by omega)]; exact P1 f hf)
      refine ⟨h5, ?_, a5, fun j hj => ?_, fun c c1 c2 => ?_⟩
      · rw [fX1_findMarks_c14, if_neg (show ¬ (1 : Int32) = 0 by decide), if_pos (show nI k < (21 : Int32) from nI_lt (a := k) (b := 21) (by omega) (by omega)), hg, e_bd, e_wr (by omega) (by omega), q5, e_bd, nI_1]
        rfl
      · rw [b5 90 (by omega), up_at]
        by_cases z : j = k
        · rw [if_pos ⟨rfl, z⟩, z, hTe]
        · rw [if_neg (fun y => z y.2)]; exact P2 j (by omega)
      · rw [b5 c c1, up_cell c2]; exact P3 c c1 c2
    intro d
    induction d with
    | zero =>
      intro k fu h1 hk hfu P1 P2 P3
      obtain ⟨fu, rfl⟩ : ∃ z, fu = z + 1 := ⟨fu - 1, by omega⟩
      obtain ⟨fu, rfl⟩ : ∃ z, fu = z + 1 := ⟨fu - 1, by omega⟩
      obtain rfl : k = K := by omega
      obtain ⟨h2, q2, a, b, c⟩ := step k (fu + 1) h1 (Nat.le_refl _) P1 P2 P3
      rw [q2, k0, fX1_findMarks_c14, if_pos bI_f]
      exact ⟨h2, rfl, fun j hj => b j (by omega), c⟩
    | succ d ih =>
      intro k fu h1 hk hfu P1 P2 P3
      obtain ⟨fu, rfl⟩ : ∃ z, fu = z + 1 := ⟨fu - 1, by omega⟩
      obtain ⟨h2, q2, a, b, c⟩ := step k fu h1 (by omega) P1 P2 P3
      rw [q2, k1 k (by omega)]
      exact ih (k + 1) fu h2 (by omega) (by omega) a b c
  obtain ⟨h1, q1, p1, p2, -⟩ := c_fill (a := 1 + 17) (na := 20) (by omega) 1000000 h
  unfold fX1_findMarks
  rw [q1, e_bd]
  exact key K 0 1000 h1 (by omega) (by omega) (fun f hf => (p1 f hf).trans (by rw [lim_f (show pM G l 0 f = false from rfl)]; rfl)) (fun j hj => absurd hj (Nat.not_lt_zero j)) (fun c c1 _ => p2 c (by omega))
theorem m_passLevel (R : RM m G) (A : IA G) (hl : l < 10) {ms : Nat → Bool} (hm : m.1 0 15 = nI (mk ms 20)) (J : PJ G l ms) : fX4_passLevel (nI l) m = some (nI (pT G l ms), m) := by
  have I := A.1
  have hc : gCap G l ≤ 1000000 := I.1 l hl
  have bv : ∀ f t, f < 20 → t ≤ 1000001 → gOv G f l = true → gRate G f ((mv G l ms f).getD t) ≤ 9000009 := fun f t hf ht ho => by
    refine gRate_le I hf (I.ov hf ho).1 ?_
    cases c : ms f with
    | true => rw [mv_t c, Option.getD_some]; have := (J.1 f c).2; omega
    | false => rw [mv_f c, Option.getD_none]; exact ht
  have inner : ∀ (K : Int32 → Int32 → Int32 → th_H → Option (Int32 × th_H)) (lo hi : Int32) (t : Nat), t ≤ 1000001 → fX4_passLevel_c25 K 1000 (nI l) lo hi (nI t) 0 0 m = if gCap G l < fW G (mv G l ms) l t then K (nI l) lo (nI t) m else K (nI l) (nI t) hi m := by
    intro K lo hi t ht
    have small : fW G (mv G l ms) l t < 2147483648 := by
      have : fW G (mv G l ms) l t ≤ 20 * 9000009 := fb_sm_bound (fun f hf => by
        by_cases c : gOv G f l = true
        · rw [if_pos c]; exact bv f t hf ht c
        · rw [if_neg c]; omega)
      omega
    refine for_up 20 (fun fu i => fX4_passLevel_c25 K fu (nI l) lo hi (nI t) (lN (fb_sm (fun f => if gOv G f l = true then gRate G f ((mv G l ms f).getD t) else 0) i)) (nI i) m) _ ?_ ?_ (by omega)
    · intro fu i hi2
      rw [fX4_passLevel_c25, if_pos (show nI i < (20 : Int32) from nI_lt (a := i) (b := 20) hi2 (by omega)), m_goesOver R I hi2 hl, e_bd, ic e_c0, hm, e_bit (mk20 _) (by omega), ic e_c1, mk20_bit _ hi2, fb_sm_succ, nI_1]
      by_cases o : gOv G i l = true
      · have ht2 := (I.ov hi2 o).1
        have hr := bv i t hi2 ht o
        obtain ⟨e1, e2⟩ := A.2.2.1 i hi2 ht2 l hl
        rw [if_neg (not_not_intro o), if_pos o]
        cases c : ms i with
        | true =>
          rw [mv_t c, Option.getD_some] at hr
          have := (J.1 i c).2
          rw [if_pos rfl, m_elsewhere R hi2 hl (by omega) (by omega), e_bd, m_rate R I hi2 ht2 (by omega), e_bd, nI_l (by omega), lN_add, mv_t c, Option.getD_some]
        | false =>
          rw [mv_f c, Option.getD_none] at hr
          rw [if_neg (by decide), m_rate R I hi2 ht2 ht, e_bd, nI_l (by omega), lN_add, mv_f c, Option.getD_none]
      · rw [if_pos o, if_neg o, show (0 : Int64) = lN 0 from rfl, lN_add]
    · intro fu
      have g3 : G (3 + l) = gCap G l := rfl
      have ef : fb_sm (fun f => if gOv G f l = true then gRate G f ((mv G l ms f).getD t) else 0) 20 = fW G (mv G l ms) l t := rfl
      rw [fX4_passLevel_c25, if_neg (by decide), e_ladd, m_row R (by omega), g3, nI_l (by omega), ic (m_gt _ _), ef, ic (propext (lN_lt (show gCap G l < 2147483648 by omega) small))]
  obtain ⟨-, s, hs, -, j3⟩ := J
  have h0 : fW G (mv G l ms) l 0 ≤ gCap G l := Nat.le_trans (fW_mono (Nat.zero_le s)) j3
  unfold fX4_passLevel
  refine bis0 (fun t => decide (fW G (mv G l ms) l t ≤ gCap G l)) (fT_anti l) (decide_eq_true h0) (fun fu lo hi => fX4_passLevel_c5 fu (nI l) (nI lo) (nI hi) m) (fun r => some (nI r, m)) ?_ ?_ ?_
  · intro fu lo hi h1 h2 hp
    have hp2 : fW G (mv G l ms) l ((lo + hi) / 2) ≤ gCap G l := by simpa using hp
    rw [fX4_passLevel_c5, pk_sub (by omega), if_pos (show (1 : Int32) < nI (hi - lo) from nI_lt (a := 1) (by omega) (by omega)), nI_add, e_divl (by omega) (by decide) (by decide)]
    have := inner (fX4_passLevel_c5 fu) (nI lo) (nI hi) ((lo + hi) / 2) (by omega)
    rw [if_neg (by omega)] at this
    exact this
  · intro fu lo hi h1 h2 hp
    have hp2 : ¬ fW G (mv G l ms) l ((lo + hi) / 2) ≤ gCap G l := by simpa using hp
    rw [fX4_passLevel_c5, pk_sub (by omega), if_pos (show (1 : Int32) < nI (hi - lo) from nI_lt (a := 1) (by omega) (by omega)), nI_add, e_divl (by omega) (by decide) (by decide)]
    have := inner (fX4_passLevel_c5 fu) (nI lo) (nI hi) ((lo + hi) / 2) (by omega)
    rw [if_pos (by omega)] at this
    exact this
  · intro fu lo h1
    rw [fX4_passLevel_c5, pk_sub (by omega), show lo + 1 - lo = 1 by omega, if_neg (by decide)]
theorem m_pass_c61 (R : RM m G) (A : IA G) (hl : l < 10) {ms ms' : Nat → Bool} {T : Nat} (hT : T ≤ 1000000) (hn : ∀ f, ms' f = true ↔ ms f = true ∨ (gOv G f l = true ∧ gEls G f l < T)) (hm : m.1 0 15 = nI (mk ms 20)) (K : Int32 → Int32 → Int32 → Int32 → th_H → Option (Int32 × th_H)) (x y : Int32) : fX4_pass_c61 K 1000 (nI l) x y (nI T) (nI (mk ms 20)) 0 m = K (nI l) x y (bI (an (fun f => ms' f && !ms f) 20)) (th_up m 0 15 (nI (mk ms' 20))) := by
  have I := A.1
  have R' : ∀ v : Int32, RM (th_up m 0 15 v) G := fun v => R.off (up_cell (by omega))
  have h00 : th_up m 0 15 (nI (mk (fun f => if f < 0 then ms' f else ms f) 20)) = m := up_self (by rw [hm]; exact congrArg nI (mk_cong (fun f _ => by rw [if_neg (Nat.not_lt_zero f)])))
  have key : fX4_pass_c61 K 1000 (nI l) x y (nI T) (nI (mk ms 20)) 0 (th_up m 0 15 (nI (mk (fun f => if f < 0 then ms' f else ms f) 20))) = K (nI l) x y (bI (an (fun f => ms' f && !ms f) 20)) (th_up m 0 15 (nI (mk ms' 20))) := by
    refine for_up 20 (fun fu i => fX4_pass_c61 K fu (nI l) x y (nI T) (nI (mk ms 20)) (nI i) (th_up m 0 15 (nI (mk (fun f => if f < i then ms' f else ms f) 20)))) _ ?_ ?_ (by omega)
    · intro fu i hi
      have same : ms' i = ms i → mk (fun f => if f < i then ms' f else ms f) 20 = mk (fun f => if f < i + 1 then ms' f else ms f) 20 := fun z => mk_cong (fun f _ => by
        by_cases w : f < i
        · rw [if_pos w, if_pos (show f < i + 1 by omega)]
        · rw [if_neg w]
          by_cases w2 : f = i
          · rw [w2, if_pos (show i < i + 1 by omega), z]
          · rw [if_neg (show ¬ f < i + 1 by omega)])
      have new : ms' i = true → mk (fun f => (if f < i then ms' f else ms f) || f == i) 20 = mk (fun f => if f < i + 1 then ms' f else ms f) 20 := fun z => mk_cong (fun f _ => by
        by_cases w2 : f = i
        · rw [w2, if_pos (show i < i + 1 by omega), z]; simp
        · have e2 : (f == i) = false := by simpa using w2
          rw [e2, Bool.or_false]
          by_cases w : f < i
          · rw [if_pos w, if_pos (show f < i + 1 by omega)]
          · rw [if_neg w, if_neg (show ¬ f < i + 1 by omega)])
      have e0 : nI (mk (fun f => if f < i then ms' f else ms f) 20) ||| 0 = nI (mk (fun f => if f < i then ms' f else ms f) 20) := by rw [show (0 : Int32) = nI 0 from rfl, fa_or, Nat.or_zero]
      rw [fX4_pass_c61, if_pos (show nI i < (20 : Int32) from nI_lt (a := i) (b := 20) hi (by omega)), m_goesOver (R' _) I hi hl, e_bd, ic e_c0, up_same, e0, e_st, up_up, on_bit hi, nI_1]
      by_cases o : gOv G i l = true
      · have ht2 := (I.ov hi o).1
        obtain ⟨e1, e2⟩ := A.2.2.1 i hi ht2 l hl
        have hE := els_le A.2.2.1 hi hl ht2
        rw [if_neg (not_not_intro o), m_elsewhere (R' _) hi hl (by omega) (by omega), e_bd, ic (e_lt (show gEls G i l < 2147483648 by omega) (show T < 2147483648 by omega)), e_st, e_st, up_up, up_up]
        by_cases w : gEls G i l < T
        · rw [if_pos w, new ((hn i).mpr (Or.inr ⟨o, w⟩))]
        · rw [if_neg w, same]
          rw [Bool.eq_iff_iff, hn i]
          exact ⟨fun z => z.elim id (fun y => absurd y.2 w), Or.inl⟩
      · rw [if_pos o, same]
        rw [Bool.eq_iff_iff, hn i]
        exact ⟨fun z => z.elim id (fun y => absurd y.1 o), Or.inl⟩
    · intro fu
      have em : mk (fun f => if f < 20 then ms' f else ms f) 20 = mk ms' 20 := mk_cong (fun f hf => by rw [if_pos hf])
      rw [fX4_pass_c61, if_neg (by decide), em, up_same, ic (e_eq (mk20 ms') (mk20 ms))]
      by_cases c : an (fun f => ms' f && !ms f) 20 = true
      · rw [if_neg, c]
        · rfl
        · intro z
          obtain ⟨f, hf, y⟩ := an_iff.mp c
          have y2 := (Bool.and_eq_true _ _).mp y
          have b1 := mk20_bit ms' hf
          rw [z, mk20_bit ms hf, y2.1] at b1
          rw [b1] at y2
          cases y2.2
      · rw [if_pos, show an (fun f => ms' f && !ms f) 20 = false by simpa using c]
        · rfl
        · refine mk_cong (fun f hf => ?_)
          cases a : ms' f with
          | false =>
            cases b : ms f with
            | false => rfl
            | true => rw [(hn f).mpr (Or.inl b)] at a; cases a
          | true =>
            cases b : ms f with
            | true => rfl
            | false => exact absurd (an_iff.mpr ⟨f, hf, by rw [a, b]; rfl⟩) c
  rw [h00] at key
  exact key
end
theorem s_pass (x y : Int32) : Sp2 (fX3_pass x y) (fX4_pass x y) := by
  intro n h m hn ⟨G, R⟩
  have R0 := R.th0
  have A := R.2.2.1.1
  unfold fX3_pass fX4_pass
  rw [c_isLink, e_bd, e_st, m_isLink, e_bd, ic e_c0, ic e_c0]
  have out : ∃ r h2 m2, some ((-1 : Int32), h) = some (r, h2) ∧ some ((-1 : Int32), th_up m 0 0 0) = some (r, m2) ∧ Rel (n + 1) h2 m2 := ⟨_, _, _, rfl, rfl, G, R0.inc⟩
  by_cases c : 0 ≤ x.toInt ∧ x.toInt ≤ 9
  · rw [if_neg (not_not_intro c), if_neg (not_not_intro c)]
    obtain ⟨l, hl, e⟩ := e_li x c
    subst e
    by_cases d : y < -1
    · rw [if_pos d, if_pos d]; exact out
    · rw [if_neg d, if_neg d, e_st]
      obtain ⟨K, hK, k0, k1⟩ := pM_end (G := G) (l := l)
      obtain ⟨h4, q4, a4, b4⟩ := c_findMarks R0.1 A hl hK k0 k1
      have R4 : RelG n G h4 (th_up m 0 0 0) := R0.scrC b4
      rw [q4, e_bd]
      have em1 : (-1 : Int32).toInt = -1 := by decide
      have d2 : y = -1 ∨ ∃ j, j < 2147483648 ∧ y = nI j := by
        by_cases z : y < 0
        · left
          rw [fa_lt] at z d
          have e0 : (0 : Int32).toInt = 0 := rfl
          rw [fa_eq]
          omega
        · exact Or.inr (nI_of z)
      have ncm : ∀ k, k < 2147483648 → (nI k = y ↔ ∃ j, y = nI j ∧ j = k ∧ j < 2147483648) := fun k hk => by
        rcases d2 with z | ⟨j, hj, z⟩
        · rw [z]
          constructor
          · intro w; rw [e_ne1 hk] at w; exact w.elim
          · rintro ⟨j, w1, w2, w3⟩; rw [e_1n w3] at w1; exact w1.elim
        · rw [z, nI_eq hk hj]
          exact ⟨fun w => ⟨j, rfl, w.symm, hj⟩, fun ⟨j2, w1, w2, w3⟩ => by rw [nI_eq hj w3] at w1; omega⟩
      -- the reference's walk
      have key : ∀ e k fu m', k + e = K → e + 1 < fu → m'.1 0 15 = nI (mk (pM G l k) 20) → (∀ c, c ≠ 0 → m'.1 c = (th_up m 0 0 0).1 c) → (∀ j, j < k → ¬ nI j = y) → ∃ m2, (∀ c, c ≠ 0 → m2.1 c = (th_up m 0 0 0).1 c) ∧ fX4_pass_c29 fu (nI l) y (nI k) 1 m' = some (if y = -1 then nI (K + 1) else if ∃ j, j ≤ K ∧ y = nI j then h4.1 90 y.toNatClampNeg else -1, m2) := by
        have stp : ∀ k fu m', k ≤ K → m'.1 0 15 = nI (mk (pM G l k) 20) → (∀ c, c ≠ 0 → m'.1 c = (th_up m 0 0 0).1 c) → ¬ nI k = y → fX4_pass_c29 (fu + 1) (nI l) y (nI k) 1 m' = fX4_pass_c29 fu (nI l) y (nI (k + 1)) (bI (pNew G l k)) (th_up m' 0 15 (nI (mk (pM G l (k + 1)) 20))) := by
          intro k fu m' hk hm hc hy
          have rm' : RM m' G := R0.2.1.off (hc 2 (by omega))
          have J := pM_J A.2.1 hl k
          have hp := m_passLevel rm' A hl hm J
          have hT : pT G l (pM G l k) ≤ 1000000 := fT_le l
          obtain ⟨T, hTe⟩ : ∃ T, pT G l (pM G l k) = T := ⟨_, rfl⟩
          rw [hTe] at hp hT
          rw [fX4_pass_c29, if_neg (show ¬ (1 : Int32) = 0 by decide), hp, e_bd, if_neg hy, hm, nI_1, m_pass_c61 (ms := pM G l k) (ms' := pM G l (k + 1)) rm' A hl hT (fun f => pN'_iff hTe) hm]
          rfl
        have hit : ∀ k fu m', k ≤ K → m'.1 0 15 = nI (mk (pM G l k) 20) → (∀ c, c ≠ 0 → m'.1 c = (th_up m 0 0 0).1 c) → nI k = y → ∃ m2, (∀ c, c ≠ 0 → m2.1 c = (th_up m 0 0 0).1 c) ∧ fX4_pass_c29 (fu + 1) (nI l) y (nI k) 1 m' = some (if y = -1 then nI (K + 1) else if ∃ j, j ≤ K ∧ y = nI j then h4.1 90 y.toNatClampNeg else -1, m2) := by
          intro k fu m' hk hm hc hy
          have rm' : RM m' G := R0.2.1.off (hc 2 (by omega))
          have J := pM_J A.2.1 hl k
          have hp := m_passLevel rm' A hl hm J
          refine ⟨m', hc, ?_⟩
          rw [fX4_pass_c29, if_neg (show ¬ (1 : Int32) = 0 by decide), hp, e_bd, if_pos hy, if_neg (show ¬ y = -1 by rw [← hy, e_ne1 (by omega)]; exact id), if_pos ⟨k, hk, hy.symm⟩, ← hy, nI_clamp (by omega), a4 k hk]
        intro e
        induction e with
        | zero =>
          intro k fu m' hk hfu hm hc hj
          obtain ⟨fu, rfl⟩ : ∃ z, fu = z + 1 := ⟨fu - 1, by omega⟩
          obtain ⟨fu, rfl⟩ : ∃ z, fu = z + 1 := ⟨fu - 1, by omega⟩
          obtain rfl : k = K := by omega
          by_cases hy : nI k = y
          · exact hit k (fu + 1) m' (Nat.le_refl _) hm hc hy
          · rw [stp k (fu + 1) m' (Nat.le_refl _) hm hc hy, k0, fX4_pass_c29, if_pos bI_f]
            refine ⟨th_up m' 0 15 (nI (mk (pM G l (k + 1)) 20)), fun c c0 => by rw [up_cell c0]; exact hc c c0, ?_⟩
            by_cases y1 : y = -1
            · rw [if_pos y1, if_pos y1]
            · rw [if_neg y1, if_neg y1, if_neg]
              rintro ⟨j, w1, w2⟩
              by_cases w3 : j = k
              · exact hy (by rw [w2, w3])
              · exact hj j (by omega) w2.symm
        | succ e ih =>
          intro k fu m' hk hfu hm hc hj
          obtain ⟨fu, rfl⟩ : ∃ z, fu = z + 1 := ⟨fu - 1, by omega⟩
          by_cases hy : nI k = y
          · exact hit k fu m' (by omega) hm hc hy
          · rw [stp k fu m' (by omega) hm hc hy, k1 k (by omega)]
            refine ih (k + 1) fu _ (by omega) (by omega) up_same (fun c c0 => by rw [up_cell c0]; exact hc c c0) (fun j hj2 => ?_)
            by_cases w : j = k
            · rw [w]; exact hy
            · exact hj j (by omega)
      obtain ⟨m2, hc2, q2⟩ := key K 0 1000 (th_up (th_up m 0 0 0) 0 15 0) (by omega) (by omega) (by
        rw [up_same]
        have : mk (pM G l 0) 20 = 0 := (bits0 (mk_lt _ 20)).mpr (fun i hi => by rw [mk20_bit _ hi]; rfl)
        rw [this]
        rfl) (fun c c0 => up_cell c0) (fun j hj => absurd hj (Nat.not_lt_zero j))
      have q2' : fX4_pass_c29 1000 (nI l) y 0 1 (th_up (th_up m 0 0 0) 0 15 0) = _ := q2
      rw [q2']
      have fin : ∀ r : Int32, ∃ r' h3 m3, some (r, h4) = some (r', h3) ∧ some (r, m2) = some (r', m3) ∧ Rel (n + 1) h3 m3 := fun r => ⟨_, _, _, rfl, rfl, G, (R4.mod (R0.2.1.off (hc2 2 (by omega))) (hc2 1 (by omega)) (hc2 3 (by omega)) (hc2 4 (by omega))).inc⟩
      by_cases y1 : y = -1
      · rw [if_pos y1, if_pos y1]; exact fin _
      · rw [if_neg y1, if_neg y1]
        obtain ⟨j, hj, ej⟩ := d2.elim (fun z => absurd z y1) id
        rw [ej, ic (e_lt hj (show K + 1 < 2147483648 by omega))]
        by_cases w : j < K + 1
        · rw [if_pos w, if_pos (show nI j < (21 : Int32) from nI_lt (a := j) (b := 21) (by omega) (by omega)), e_rd (show j < 21 by omega) (by omega), if_pos ⟨j, by omega, rfl⟩, nI_clamp hj]
          exact fin _
        · rw [if_neg w, if_neg]
          · exact fin _
          · rintro ⟨i, w1, w2⟩
            rw [nI_eq hj (by omega)] at w2
            omega
  · rw [if_pos c, if_pos c]; exact out
