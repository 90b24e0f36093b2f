/-! ===== link and known ===== -/
/-- from the thirteenth on the same -/
def HI (G G' : GR) : Prop := ∀ k, 13 ≤ k → G' k = G k
section
variable {q : Nat} {h h2 m m2 : th_H} {G G' : GR} {n : Nat}
theorem HI.th (H : HI G G') (f : Nat) : gTh G' f = gTh G f := by unfold gTh; rw [H _ (by omega)]
theorem HI.ov (H : HI G G') (f l : Nat) : gOv G' f l = gOv G f l := by unfold gOv gPath; rw [H.th, H _ (by omega)]
theorem HI.bnd (H : HI G G') (l : Nat) : gBnd G' l = gBnd G l := fb_sm_cong (fun f _ => by rw [H.ov]; unfold gLeast; rw [H _ (by omega)])
theorem HI.ii (H : HI G G') (I : II G) (hc : ∀ l, l < 10 → gCap G' l ≤ 1000000) (hb : ∀ l, l < 10 → gBnd G l ≤ gCap G' l) : II G' := by
  obtain ⟨⟨⟨-, a2⟩, -, e, ls, bg⟩, i2, i3⟩ := I
  have eh : ∀ k, 13 ≤ k → G' k = G k := H
  refine ⟨⟨⟨hc, fun f hf => ?_⟩, fun l hl => by rw [H.bnd]; exact hb l hl, fun f hf ht l hl => ?_, fun l hl => by rw [eh _ (by omega)]; exact ls l hl, fun k h1 h2 => by rw [eh _ (by omega)]; exact bg k h1 h2⟩, fun f g hf hg tf tg e => ?_, fun f hf ht => ?_⟩
  · rw [H.th]
    unfold gPath gWt gLeast gWant
    rw [eh _ (by omega), eh _ (by omega), eh _ (by omega), eh _ (by omega), eh _ (by omega)]
    exact a2 f hf
  · rw [H.th] at ht
    unfold gAh gBh
    rw [eh _ (by omega), eh _ (by omega)]
    exact e f hf ht l hl
  · rw [H.th] at tf tg
    unfold gName at e
    rw [eh _ (by omega), eh _ (by omega)] at e
    exact i2 f g hf hg tf tg e
  · rw [H.th] at ht
    have := i3 f hf ht
    unfold gName gHeld gTold gWay gWl gWh gPath gAh gBh at this ⊢
    rw [eh _ (by omega), eh _ (by omega), eh _ (by omega), eh _ (by omega), eh _ (by omega), eh _ (by omega), eh _ (by omega)]
    refine ⟨this.1, this.2.1, this.2.2.1, this.2.2.2.1, this.2.2.2.2.1, fun l hl hb => ?_⟩
    rw [eh _ (by omega), eh _ (by omega)]
    exact this.2.2.2.2.2 l hl hb
theorem HI.cap {l v : Nat} (hl : l < 10) : HI G (gu G (3 + l) v) := fun k hk => gu_ne (by omega)
theorem gCap_up {l v j : Nat} : gCap (gu G (3 + l) v) j = if j = l then v else gCap G j := by
  unfold gCap
  by_cases z : j = l
  · rw [if_pos z, z, gu_eq]
  · rw [if_neg z, gu_ne (by omega)]
/-- the plan with another capacity -/
theorem RP.cap {p : Nat} (R : RP p h G) {l v : Nat} (hl : l < 10) (x : Int32) : RP p (th_up (th_up h (p + 1) l (nI v)) p 8 x) (gu G (3 + l) v) := by
  obtain ⟨a, b, c, d, e⟩ := R
  have H : HI G (gu G (3 + l) v) := HI.cap hl
  refine ⟨fun j hj => ?_, fun j hj => ?_, fun f hf => ?_, fun f hf ht => ?_, ?_⟩
  · rw [up_cell (by omega), up_at, gCap_up]
    by_cases z : j = l
    · rw [if_pos ⟨rfl, z⟩, if_pos z]
    · rw [if_neg (fun y => z y.2), if_neg z]
      exact a j hj
  · rw [up_cell (by omega), up_cell (by omega), b j hj, mk_cong (fun f _ => (H.ov f j).symm)]
  · rw [up_cell (by omega), up_cell (by omega), c f hf, H.th]
    unfold gPath
    rw [H _ (by omega)]
  · rw [up_cell (by omega), up_cell (by omega), up_cell (by omega), up_cell (by omega), up_cell (by omega), up_cell (by omega)]
    rw [H.th] at ht
    unfold gWt gLeast gWant
    rw [H _ (by omega), H _ (by omega), H _ (by omega)]
    exact d f hf ht
  · rw [up_at, if_neg (by omega), up_cell (by omega), e, mk_cong (fun f _ => (H.th f).symm)]
/-- all but the plan's first cells as they were -/
theorem RQ.hi (R : RQ q h G) (rp : RP (q + 1) h2 G') (H : HI G G') (h012 : G' 0 = G 0 ∧ G' 1 = G 1 ∧ G' 2 = G 2) (en : h2.1 (q + 1 + 3) = h.1 (q + 1 + 3)) (ec : ∀ c, (c = q ∨ (q + 9 ≤ c ∧ c ≤ q + 15)) → h2.1 c = h.1 c) : RQ q h2 G' := by
  obtain ⟨-, b, c, d, e, g, i, j, k⟩ := R
  have eh : ∀ k, 13 ≤ k → G' k = G k := H
  refine ⟨rp, fun f hf ht => ?_, fun l hl => ?_, fun f hf ht => ?_, fun f hf ht => ?_, ?_, ?_, ?_, ?_⟩
  · rw [H.th] at ht
    unfold gName
    rw [en, eh _ (by omega)]
    exact b f hf ht
  · unfold gLose
    rw [ec _ (by omega), eh _ (by omega)]
    exact c l hl
  · rw [H.th] at ht
    have := d f hf ht
    unfold gTold gWay gWl gWh gAh gBh at this ⊢
    rw [ec (q + 11) (by omega), ec (q + 13) (by omega), ec (q + 14) (by omega), ec (q + 15) (by omega), ec (q + 9) (by omega), ec (q + 10) (by omega), eh _ (by omega), eh _ (by omega), eh _ (by omega), eh _ (by omega)]
    refine ⟨this.1, this.2.1, this.2.2.1, fun l hl => ?_⟩
    rw [eh _ (by omega), eh _ (by omega)]
    exact this.2.2.2 l hl
  · rw [H.th] at ht
    rw [ec (q + 11) (by omega), ec (q + 13) (by omega), ec (q + 9) (by omega), ec (q + 10) (by omega)]
    exact e f hf ht
  · rw [ec q (by omega), g]
    exact congrArg nI (mk_cong (fun f _ => by unfold gHeld; rw [H.th, eh _ (by omega)]))
  · rw [ec q (by omega), i, h012.1]
  · rw [ec q (by omega), j, h012.2.1]
  · rw [ec q (by omega), k, h012.2.2]
end
theorem s_link (x y : Int32) : Sp2 (fX3_link x y) (fX4_link x y) := by
  intro n h m hn ⟨G, R⟩
  have R0 := R.th0
  unfold fX3_link fX4_link
  simp only [bd1]
  rw [c_isLink, e_bd, e_st, m_isLink, e_bd, ic e_c0, ic e_c0]
  by_cases c : 0 ≤ x.toInt ∧ x.toInt ≤ 9
  · rw [if_neg (not_not_intro c), if_neg (not_not_intro c), c_isAmount, m_inl y 0 1000000 (by decide) (by decide), e_bd, e_bd, ic e_c0, ic e_c0]
    obtain ⟨l, hl, e⟩ := e_li x c
    subst e
    by_cases d : 0 ≤ y.toInt ∧ y.toInt ≤ 1000000
    · rw [if_neg (not_not_intro d), if_neg (not_not_intro d)]
      obtain ⟨u, hu, e⟩ := rng (x := y) (n := 1000001) (by omega) (by omega)
      subst e
      have hc : gCap G l ≤ 1000000 := R.iq.1 l hl
      have hB : gBnd G l ≤ gCap G l := R.2.2.1.1.2.1 l hl
      rw [e_rd hl (by omega), R.rp.1 l hl, e_ladd, m_row R0.2.1 (by omega)]
      show ∃ r h2 m2, (if nI (gCap G l) = nI u then _ else _) = _ ∧ (if nI (gCap G l) = nI u then _ else _) = _ ∧ _
      rw [ic (e_eq (show gCap G l < 2147483648 by omega) (show u < 2147483648 by omega)), ic (e_eq (show gCap G l < 2147483648 by omega) (show u < 2147483648 by omega))]
      by_cases e : gCap G l = u
      · rw [if_pos e, if_pos e]
        exact R.no (w := 2) (by omega)
      · rw [if_neg e, if_neg e, c_boundOf R.rp R.iq hl, m_bound R0.2.1 R.iq hl, e_bd, e_bd, ic (e_lt (show u < 2147483648 by omega) (show gBnd G l < 2147483648 by omega)), ic (e_lt (show u < 2147483648 by omega) (show gBnd G l < 2147483648 by omega))]
        by_cases g : u < gBnd G l
        · rw [if_pos g, if_pos g]
          exact R.no (w := 4) (by omega)
        · rw [if_neg g, if_neg g]
          unfold fX0_setCapacity
          rw [e_wr hl (by omega), e_st, e_bd, e_wr (by omega) (by omega)]
          have H : HI G (gu G (3 + l) u) := HI.cap hl
          have ii : II (gu G (3 + l) u) := H.ii R.2.2.1 (fun j hj => by
            rw [gCap_up]
            by_cases z : j = l
            · rw [if_pos z]; omega
            · rw [if_neg z]; exact R.iq.1 j hj) (fun j hj => by
            rw [gCap_up]
            by_cases z : j = l
            · rw [if_pos z, z]; omega
            · rw [if_neg z]; exact R.2.2.1.1.2.1 j hj)
          have rq : RQ 1 (th_up (th_up h (2 + 1) l (nI u)) 2 8 ((th_up h (2 + 1) l (nI u)).1 2 8 + 1)) (gu G (3 + l) u) := R.1.hi (R.rp.cap hl _) H ⟨gu_ne (by omega), gu_ne (by omega), gu_ne (by omega)⟩ (by rw [up_cell (by omega), up_cell (by omega)]) (fun c hc => by rw [up_cell (by omega), up_cell (by omega)])
          exact ⟨_, _, _, rfl, rfl, _, R0.edit hn (j := 1) (by omega) (by omega) (fun c hc => by rw [up_cell (by omega), up_cell (by omega)]) (by rw [up_cell (by omega), up_cell (by omega)]) (by rw [up_same, up_cell (by omega)]; rfl) rq ii (((MF.rf R0.2.1).up).mx []) (by simp) (by simp) (by simp)⟩
    · rw [if_pos d, if_pos d]
      exact R.no (w := 0) (by omega)
  · rw [if_pos c, if_pos c]
    exact R.no (w := 0) (by omega)
theorem s_known (x y z : Int32) : Sp2 (fX3_known x y z) (fX4_known x y z) := by
  intro n h m hn ⟨G, R⟩
  have R0 := R.th0
  have A := R.2.2.1.1
  unfold fX3_known fX4_known
  rw [e_st]
  rcases R0.flow x with ⟨a, b⟩ | ⟨f, hf, e, ht, a, b⟩
  · rw [a, b, e_bd, e_bd, if_pos rfl, if_pos rfl]
    exact ⟨_, _, _, rfl, rfl, G, R0.inc⟩
  · rw [a, b, e_bd, e_bd, if_neg (by decide), if_neg (by decide), e, c_isLink, e_bd, m_isLink, e_bd, ic e_c0, ic e_c0]
    by_cases c : 0 ≤ y.toInt ∧ y.toInt ≤ 9
    · rw [if_neg (not_not_intro c), if_neg (not_not_intro c)]
      obtain ⟨l, hl, e⟩ := e_li y c
      subst e
      rw [c_goesOver R.rp R.iq hf hl, m_goesOver R0.2.1 R.iq hf hl, e_bd, e_bd, ic e_c0, ic e_c0]
      by_cases ho : gOv G f l = true
      · rw [if_neg (not_not_intro ho), if_neg (not_not_intro ho), m_inl z 0 2 (by decide) (by decide), e_bd, ic e_c0]
        obtain ⟨a1, a2⟩ := (R.1.2.2.2.1 f hf ht).2.2.2 l hl
        obtain ⟨b1, b2⟩ := A.2.2.1 f hf ht l hl
        by_cases d : 0 ≤ z.toInt ∧ z.toInt ≤ 2
        · obtain ⟨j, hj, e⟩ := rng (x := z) (n := 3) (by omega) (by omega)
          subst e
          rw [if_neg (not_not_intro d)]
          obtain rfl | rfl | rfl : j = 0 ∨ j = 1 ∨ j = 2 := by omega
          · rw [if_pos (show nI 0 = 0 from rfl), if_pos (show nI 0 = 0 from rfl), e_mull, nI_add, e_rd (by omega) (by omega), a1, e_lmul, e_ladd, nI_add, m_row R0.2.1 (by omega)]
            exact ⟨_, _, _, rfl, rfl, G, R0.inc⟩
          · rw [if_neg (show ¬ nI 1 = 0 by decide), if_neg (show ¬ nI 1 = 0 by decide), if_pos (show nI 1 = 1 from rfl), if_pos (show nI 1 = 1 from rfl), e_mull, nI_add, e_rd (by omega) (by omega), a2, e_lmul, e_ladd, nI_add, m_row R0.2.1 (by omega)]
            exact ⟨_, _, _, rfl, rfl, G, R0.inc⟩
          · rw [if_neg (show ¬ nI 2 = 0 by decide), if_neg (show ¬ nI 2 = 0 by decide), if_neg (show ¬ nI 2 = 1 by decide), if_neg (show ¬ nI 2 = 1 by decide), if_pos (show nI 2 = 2 from rfl)]
            unfold fX1_isMarked
            obtain ⟨h2, q2, P, O⟩ := c_offerOf R.1 A R.2.2.2.1 hl
            have hE : gEls G f l ≤ 1000000 := Nat.le_trans (Nat.min_le_left _ _) b1
            have hA := gAdv_le G l
            rw [c_els R.1 A.2.2.1 hf hl ht, e_bd, q2, e_bd, m_elsewhere R0.2.1 hf hl (by omega) (by omega), e_bd, m_advertises R0.2.1 A.1 A.2.1 A.2.2.1 hl, e_bd, ic (e_lt (show gEls G f l < 2147483648 by omega) (show gAdv G l < 2147483648 by omega)), ic (e_lt (show gEls G f l < 2147483648 by omega) (show gAdv G l < 2147483648 by omega))]
            have R2 : Rel (n + 1) h2 (th_up m 0 0 0) := ⟨G, R0.pz hn P.pz (P.rq R.1) O R.2.2.1 SP.rf (MX.rf (s := []) R0.2.1) (by simp) (by simp) (by simp)⟩
            by_cases w : gEls G f l < gAdv G l
            · rw [if_pos w, if_pos w]
              exact ⟨_, _, _, rfl, rfl, R2⟩
            · rw [if_neg w, if_neg w]
              exact ⟨_, _, _, rfl, rfl, R2⟩
        · rw [if_pos d, if_neg (fun e => d (by rw [e]; decide)), if_neg (fun e => d (by rw [e]; decide)), if_neg (fun e => d (by rw [e]; decide))]
          exact ⟨_, _, _, rfl, rfl, G, R0.inc⟩
      · rw [if_pos ho, if_pos ho]
        exact ⟨_, _, _, rfl, rfl, G, R0.inc⟩
    · rw [if_pos c, if_pos c]
      exact ⟨_, _, _, rfl, rfl, G, R0.inc⟩
