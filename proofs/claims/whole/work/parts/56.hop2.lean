/-! ===== a letter under way goes on ===== -/
section
variable {n f : Nat} {h m : th_H} {G : GR}
theorem wy (R : RQ 1 h G) (O : OC 1 h G) (hf : f < 20) (ht : gTh G f = true) (w x y : Nat) : RQ 1 (th_up (th_up (th_up h 16 f (nI y)) 15 f (nI x)) 14 f (nI w)) (gu (gu (gu G (23 + 11 * f + 10) y) (23 + 11 * f + 9) x) (23 + 11 * f + 8) w) ∧ OC 1 (th_up (th_up (th_up h 16 f (nI y)) 15 f (nI x)) 14 f (nI w)) (gu (gu (gu G (23 + 11 * f + 10) y) (23 + 11 * f + 9) x) (23 + 11 * f + 8) w) ∧ PZ 1 h (th_up (th_up (th_up h 16 f (nI y)) 15 f (nI x)) 14 f (nI w)) := by
  have W : W3 f G (gu (gu (gu G (23 + 11 * f + 10) y) (23 + 11 * f + 9) x) (23 + 11 * f + 8) w) := fun k z8 z9 z10 => by rw [gu_ne z8, gu_ne z9, gu_ne z10]
  have w8 : gWay (gu (gu (gu G (23 + 11 * f + 10) y) (23 + 11 * f + 9) x) (23 + 11 * f + 8) w) f = w := gu_eq
  have w9 : gWl (gu (gu (gu G (23 + 11 * f + 10) y) (23 + 11 * f + 9) x) (23 + 11 * f + 8) w) f = x := by
    unfold gWl
    rw [gu_ne (by omega), gu_eq]
  have w10 : gWh (gu (gu (gu G (23 + 11 * f + 10) y) (23 + 11 * f + 9) x) (23 + 11 * f + 8) w) f = y := by
    unfold gWh
    rw [gu_ne (by omega), gu_ne (by omega), gu_eq]
  have Z : PZ 1 h (th_up (th_up (th_up h 16 f (nI y)) 15 f (nI x)) 14 f (nI w)) := ((PZ.rf.up (by omega)).up (by omega)).up (by omega)
  refine ⟨R.way W hf ht Z (fun c a b => ?_) (fun j hj => ?_) (fun g z => ⟨?_, ?_, ?_⟩) ?_ (fun _ => ⟨?_, ?_⟩), O.keep ?_ ?_ ?_ (fun l hl => W.adv hf hl), Z⟩
  · rw [up_cell (by omega), up_cell (by omega), up_cell (by omega)]
  · rw [up_cell (by omega), up_cell (by omega), up_cell (by omega)]
  · rw [up_at, if_neg (fun y => z y.2), up_cell (by omega), up_cell (by omega)]
  · rw [up_cell (by omega), up_at, if_neg (fun y => z y.2), up_cell (by omega)]
  · rw [up_cell (by omega), up_cell (by omega), up_at, if_neg (fun y => z y.2)]
  · rw [up_same, w8]
  · rw [up_cell (by omega), up_same, w9]
  · rw [up_cell (by omega), up_cell (by omega), up_same, w10]
  · rw [up_cell (by omega), up_cell (by omega), up_cell (by omega)]
  · rw [up_cell (by omega), up_cell (by omega), up_cell (by omega)]
  · rw [up_cell (by omega), up_cell (by omega), up_cell (by omega)]
theorem wy_ii (I : II G) (hf : f < 20) {w x y : Nat} (hw : w ≤ 2) (hx : w ≠ 0 → x < 10 ∧ (gPath G f).testBit x = true ∧ y ≤ 1000000) (bx : x < 4294967296) (by' : y < 4294967296) : II (gu (gu (gu G (23 + 11 * f + 10) y) (23 + 11 * f + 9) x) (23 + 11 * f + 8) w) := by
  have w8 : gWay (gu (gu (gu G (23 + 11 * f + 10) y) (23 + 11 * f + 9) x) (23 + 11 * f + 8) w) f = w := gu_eq
  have w9 : gWl (gu (gu (gu G (23 + 11 * f + 10) y) (23 + 11 * f + 9) x) (23 + 11 * f + 8) w) f = x := by
    unfold gWl
    rw [gu_ne (by omega), gu_eq]
  have w10 : gWh (gu (gu (gu G (23 + 11 * f + 10) y) (23 + 11 * f + 9) x) (23 + 11 * f + 8) w) f = y := by
    unfold gWh
    rw [gu_ne (by omega), gu_ne (by omega), gu_eq]
  refine I.way (f := f) (fun k z8 z9 z10 => by rw [gu_ne z8, gu_ne z9, gu_ne z10]) hf (by rw [w8]; exact hw) (fun z => ?_) (by rw [w9]; exact bx) (by rw [w10]; exact by')
  rw [w8] at z
  rw [w9, w10]
  exact hx z
theorem wy_sp {w x y : Nat} : SP G (gu (gu (gu G (23 + 11 * f + 10) y) (23 + 11 * f + 9) x) (23 + 11 * f + 8) w) := W3.sp (f := f) (fun k z8 z9 z10 => by rw [gu_ne z8, gu_ne z9, gu_ne z10])
theorem ov_of (ht : gTh G f = true) {l : Nat} (h : (gPath G f).testBit l = true) : gOv G f l = true := by unfold gOv; rw [ht, h]; rfl
theorem hop_back (R : RelG n G h m) (hn : n < 512) (hf : f < 20) (ht : gTh G f = true) (hw : gWay G f = 2) : ∃ r h2 m2 G', fX1_goOn_c52 1 (nI f) h = some (r, h2) ∧ fX4_hop_c86 (nI f) (nI (23 + 11 * f)) m = some (r, m2) ∧ RelG n G' h2 m2 := by
  obtain ⟨hl, hb, hu⟩ := (R.2.2.1.2.2 f hf ht).2.2.2.2.1 (by omega)
  have A := R.2.2.1.1
  obtain ⟨v15, v16⟩ := (R.1.2.2.2.1 f hf ht).2.2.1 (by omega)
  have v14 : h.1 14 f = nI 2 := by rw [← hw]; exact (R.1.2.2.2.1 f hf ht).2.1
  have ho := ov_of ht hb
  generalize el : gWl G f = l at *
  generalize eu : gWh G f = u at *
  obtain ⟨h2, q2, rq2, oc2, Z2, -⟩ := c_tellBehind R.1 A R.2.2.2.1 hf hl ht hu
  obtain ⟨I1, S1⟩ := R.2.2.1.up (k := 443 + 10 * f + l) (v := u) (Or.inr (Or.inr (Or.inl ⟨f, l, hf, hl, ho, hu, Or.inr rfl⟩)))
  obtain ⟨h4, q4, P4, oc4⟩ := c_offerOf rq2 I1.1 oc2 hl
  have rq4 := P4.rq rq2
  have ht1 : gTh (gu G (443 + 10 * f + l) u) f = true := by rw [S1.th hf]; exact ht
  have hv : (gBack G f l u).1 ≤ 1000000 := (gBack_ok A hf hl hu).2.2
  have hA := gAdv_le (gu G (443 + 10 * f + l) u) l
  obtain ⟨m5, q5, M5⟩ := m_backTo R.2.1 A.1 A.2.1 A.2.2.1 hf hl hu
  have e2 : (gBack G f l u).2 = gu G (443 + 10 * f + l) u := rfl
  have e1 : (gBack G f l u).1 = min u (gAdv (gu G (443 + 10 * f + l) u) l) := rfl
  rw [e2] at M5
  rw [e1] at hv q5
  generalize hv2 : min u (gAdv (gu G (443 + 10 * f + l) u) l) = v at *
  generalize hG1 : gu G (443 + 10 * f + l) u = G1 at *
  have way1 : gWay G1 f = 2 := by rw [← hG1]; unfold gWay; rw [gu_ne (by omega)]; exact hw
  have wh1 : gWh G1 f = u := by rw [← hG1]; unfold gWh; rw [gu_ne (by omega)]; exact eu
  have b16 : h2.1 16 f = nI u := by
    have := ((rq2.2.2.2.1 f hf ht1).2.2.1 (by omega)).2
    rw [wh1] at this
    exact this
  have b14 : h4.1 14 f = nI 2 := by
    have := (rq4.2.2.2.1 f hf ht1).2.1
    rw [way1] at this
    exact this
  have rp5 : RP (1 + 1) (th_up h4 16 f (nI v)) G1 := rq4.1.off (fun c x y _ => by rw [up_cell (by omega)]) (by rw [up_cell (by omega)])
  have qh : fX1_highestBelow 1 (nI f) (nI l) (th_up h4 16 f (nI v)) = some (nI (oE (pvF G1 f l)), th_up h4 16 f (nI v)) := by
    unfold fX1_highestBelow
    rw [Int32.sub_eq_add_neg, c_highest rp5 I1.1.1 hf l 1000 (by omega) (by omega), enc_oE]
  have M6 := M5.up (k := 23 + 11 * f + 10) (v := v)
  have S6 : SP G1 (gu G1 (23 + 11 * f + 10) v) := SP.up (Or.inr (Or.inr (Or.inr ⟨f, 10, rfl, by omega, by omega⟩)))
  have qn : fX4_nextLink (nI f) (nI l) (-1) (th_up m5 2 (23 + 11 * f + 10) (nI v)) = some (nI (oE (pvF G1 f l)), th_up m5 2 (23 + 11 * f + 10) (nI v)) := by
    unfold fX4_nextLink
    rw [m_prev M6.1 (S6.IQ I1.1.1) hf l 1000 (by omega) (by omega), pvF_sp S6 hf, enc_oE]
  have M7 := M6.up (k := 23 + 11 * f + 9) (v := oE (pvF G1 f l))
  have isl : (0 : Int) ≤ (nI l).toInt ∧ (nI l).toInt ≤ 9 := by rw [nI_toInt (by omega)]; omega
  have g9 : G (23 + 11 * f + 9) = l := el
  have g8 : G (23 + 11 * f + 8) = 2 := hw
  have g10 : G (23 + 11 * f + 10) = u := eu
  have cside : fX1_goOn_c52 1 (nI f) h = (if nI (oE (pvF G1 f l)) = -1 then some ((20 : Int32) + nI l, th_up (th_up (th_up h4 16 f (nI v)) 15 f (nI (oE (pvF G1 f l)))) 14 f (nI 0)) else some ((20 : Int32) + nI l, th_up (th_up (th_up h4 16 f (nI v)) 15 f (nI (oE (pvF G1 f l)))) 14 f (nI 2))) := by
    unfold fX1_goOn_c52 fX1_arriveBack
    rw [e_rd hf (by omega), v15, c_isLink, e_bd, if_pos isl, if_neg (by decide), e_rd hf (by omega), v14, if_neg (by decide), bd1, e_rd hf (by omega), v16, q2, e_bd, e_rd hf (by omega), b16, q4, e_bd, e_mn (by omega) (by omega), hv2, e_wr hf (by omega), qh, e_bd, e_wr hf (by omega), e_rd hf (by omega), up_same, e_wr hf (by omega)]
    have es : th_up (th_up (th_up h4 16 f (nI v)) 15 f (nI (oE (pvF G1 f l)))) 14 f (nI 2) = th_up (th_up h4 16 f (nI v)) 15 f (nI (oE (pvF G1 f l))) := up_self (by rw [up_cell (by omega), up_cell (by omega)]; exact b14)
    rw [es]
    rfl
  have mside : fX4_hop_c86 (nI f) (nI (23 + 11 * f)) m = (if nI (oE (pvF G1 f l)) = -1 then some ((20 : Int32) + nI l, th_up (th_up (th_up m5 2 (23 + 11 * f + 10) (nI v)) 2 (23 + 11 * f + 9) (nI (oE (pvF G1 f l)))) 2 (23 + 11 * f + 8) (nI 0)) else some ((20 : Int32) + nI l, th_up (th_up (th_up m5 2 (23 + 11 * f + 10) (nI v)) 2 (23 + 11 * f + 9) (nI (oE (pvF G1 f l)))) 2 (23 + 11 * f + 8) (nI 2))) := by
    unfold fX4_hop_c86
    rw [e_addl, m_row R.2.1 (by omega), g9, e_addl, m_row R.2.1 (by omega), g8, if_pos (show nI 2 = (2 : Int32) from rfl), e_addl, m_row R.2.1 (by omega), g10, q5, e_bd, e_wr (by omega) (by omega), qn, e_bd, e_wr (by omega) (by omega), e_rd (by omega) (by omega), up_same, e_wr (by omega) (by omega), e_wr (by omega) (by omega)]
    rfl
  rw [cside, mside]
  have fin : ∀ w, (w = 0 ∨ w = 2) → (w = 2 → ∃ r, pvF G1 f l = some r) → ∃ G', RelG n G' (th_up (th_up (th_up h4 16 f (nI v)) 15 f (nI (oE (pvF G1 f l)))) 14 f (nI w)) (th_up (th_up (th_up m5 2 (23 + 11 * f + 10) (nI v)) 2 (23 + 11 * f + 9) (nI (oE (pvF G1 f l)))) 2 (23 + 11 * f + 8) (nI w)) := by
    intro w hw2 hr
    obtain ⟨rq, oc, Z⟩ := wy rq4 oc4 hf ht1 w (oE (pvF G1 f l)) v
    have bo : oE (pvF G1 f l) < 4294967296 := by
      cases e : pvF G1 f l with
      | none => show (4294967295 : Nat) < _; omega
      | some r =>
        have := pvF_ok l r e
        show r < _
        omega
    have ii := wy_ii I1 hf (w := w) (x := oE (pvF G1 f l)) (y := v) (by omega) (fun z => by
      obtain ⟨r, er⟩ := hr (by omega)
      obtain ⟨r1, r2⟩ := pvF_ok l r er
      rw [er]
      have : gTh G1 f = true ∧ (gPath G1 f).testBit r = true := by simpa [gOv] using r2
      exact ⟨by show r < 10; omega, this.2, hv⟩) bo (by omega)
    exact ⟨_, R.pz0 hn ((Z2.tr P4.pz).tr Z) rq oc ii (S1.tr wy_sp).sq ((M7.up (k := 23 + 11 * f + 8) (v := w)).mx []) (by simp) (by simp) (by simp)⟩
  cases e : pvF G1 f l with
  | none =>
    rw [e] at fin
    obtain ⟨G', R'⟩ := fin 0 (Or.inl rfl) (fun z => by omega)
    rw [if_pos (show nI (oE none) = -1 from e_m1.symm), if_pos (show nI (oE none) = -1 from e_m1.symm)]
    exact ⟨_, _, _, G', rfl, rfl, R'⟩
  | some r =>
    rw [e] at fin
    obtain ⟨G', R'⟩ := fin 2 (Or.inr rfl) (fun _ => ⟨r, rfl⟩)
    have hr := (pvF_ok l r e).1
    have ne : ¬ nI (oE (some r)) = -1 := by
      show ¬ nI r = -1
      rw [e_ne1 (by omega)]
      exact id
    rw [if_neg ne, if_neg ne]
    exact ⟨_, _, _, G', rfl, rfl, R'⟩
theorem hop_forth (R : RelG n G h m) (hn : n < 512) (hf : f < 20) (ht : gTh G f = true) (hw : gWay G f = 1) : ∃ r h2 m2 G', fX1_goOn_c52 1 (nI f) h = some (r, h2) ∧ fX4_hop_c86 (nI f) (nI (23 + 11 * f)) m = some (r, m2) ∧ RelG n G' h2 m2 := by
  obtain ⟨hl, hb, hu⟩ := (R.2.2.1.2.2 f hf ht).2.2.2.2.1 (by omega)
  have A := R.2.2.1.1
  obtain ⟨v15, v16⟩ := (R.1.2.2.2.1 f hf ht).2.2.1 (by omega)
  have v14 : h.1 14 f = nI 1 := by rw [← hw]; exact (R.1.2.2.2.1 f hf ht).2.1
  have ho := ov_of ht hb
  generalize el : gWl G f = l at *
  generalize eu : gWh G f = u at *
  obtain ⟨h2, q2, rq2, oc2, Z2, -⟩ := c_tellAhead R.1 A R.2.2.2.1 hf hl ht hu
  obtain ⟨I1, S1⟩ := R.2.2.1.up (k := 243 + 10 * f + l) (v := u) (Or.inr (Or.inr (Or.inl ⟨f, l, hf, hl, ho, hu, Or.inl rfl⟩)))
  obtain ⟨h3, q3, rq3, oc3, Z3, -⟩ := c_isLostAt rq2 I1.1 oc2 hl
  have ht1 : gTh (gu G (243 + 10 * f + l) u) f = true := by rw [S1.th hf]; exact ht
  obtain ⟨m5, q5, M5⟩ := m_forth R.2.1 A.1 A.2.1 A.2.2.1 hf hl hu (A.2.2.2.1 l hl)
  have If := gForth_ii R.2.2.1 hf hl ho hu
  have e13 : gu G (243 + 10 * f + l) u (13 + l) = G (13 + l) := gu_ne (by omega)
  have e22 : gu G (243 + 10 * f + l) u 2 = G 2 := gu_ne (by omega)
  rw [e13, e22] at rq3 oc3
  rw [e13] at q3
  have isl : (0 : Int) ≤ (nI l).toInt ∧ (nI l).toInt ≤ 9 := by rw [nI_toInt (by omega)]; omega
  have g9 : G (23 + 11 * f + 9) = l := el
  have g8 : G (23 + 11 * f + 8) = 1 := hw
  have g10 : G (23 + 11 * f + 10) = u := eu
  unfold fX1_goOn_c52 fX1_arriveForth fX4_hop_c86
  rw [e_rd hf (by omega), v15, c_isLink, e_bd, if_pos isl, if_neg (by decide), e_rd hf (by omega), v14, if_pos (show nI 1 = (1 : Int32) from rfl), bd1, e_rd hf (by omega), v16, q2, e_bd, q3, e_bd, ic e_c0, show nI (23 + 11 * f) + 9 = nI (23 + 11 * f + 9) from e_addl _ 9, m_row R.2.1 (by omega), g9, show nI (23 + 11 * f) + 8 = nI (23 + 11 * f + 8) from e_addl _ 8, m_row R.2.1 (by omega), g8, if_neg (show ¬ nI 1 = (2 : Int32) by decide), show nI (23 + 11 * f) + 10 = nI (23 + 11 * f + 10) from e_addl _ 10, m_row R.2.1 (by omega), g10, q5, e_bd]
  unfold gForth at M5 If ⊢
  by_cases c : 0 < G (13 + l)
  · rw [if_pos c] at rq3 oc3 M5 If
    rw [if_neg (not_not_intro c), if_pos c, if_pos (show enc none = -1 from rfl), e_wr hf (by omega), e_wr (by omega) (by omega)]
    generalize hG2 : gu (gu (gu G (243 + 10 * f + l) u) (13 + l) (G (13 + l) - 1)) 2 (G 2 + 1) = G2 at *
    have S2 : SP G G2 := by rw [← hG2]; exact (S1.tr (SP.up (Or.inr (Or.inl (by omega))))).tr (SP.up (Or.inl (by omega)))
    have ht2 : gTh G2 f = true := by rw [S2.th hf]; exact ht
    have t9 : G2 (23 + 11 * f + 9) = l := by rw [← hG2, gu_ne (by omega), gu_ne (by omega), gu_ne (by omega)]; exact el
    have t10 : G2 (23 + 11 * f + 10) = u := by rw [← hG2, gu_ne (by omega), gu_ne (by omega), gu_ne (by omega)]; exact eu
    have t8 : G2 (23 + 11 * f + 8) = 1 := by rw [← hG2, gu_ne (by omega), gu_ne (by omega), gu_ne (by omega)]; exact hw
    obtain ⟨rq, oc, Z⟩ := wy rq3 oc3 hf ht2 0 l u
    obtain ⟨d15, d16⟩ := (rq3.2.2.2.1 f hf ht2).2.2.1 (show gWay G2 f ≠ 0 by unfold gWay; omega)
    have es : th_up (th_up h3 16 f (nI u)) 15 f (nI l) = h3 := by
      rw [up_self (show h3.1 16 f = nI u from d16.trans (congrArg nI t10)), up_self (show h3.1 15 f = nI l from d15.trans (congrArg nI t9))]
    rw [es] at rq oc Z
    have ii := wy_ii If hf (w := 0) (x := l) (y := u) (by omega) (fun z => absurd rfl z) (by omega) (by omega)
    have eg : gu (gu G2 (23 + 11 * f + 10) u) (23 + 11 * f + 9) l = G2 := by rw [gu_same t10, gu_same t9]
    have S3 : SP G2 (gu (gu (gu G2 (23 + 11 * f + 10) u) (23 + 11 * f + 9) l) (23 + 11 * f + 8) 0) := wy_sp
    rw [eg] at rq oc ii S3
    exact ⟨_, _, _, _, rfl, rfl, R.pz0 hn ((Z2.tr Z3).tr Z) rq oc ii (S2.tr S3).sq ((M5.up (k := 23 + 11 * f + 8) (v := 0)).mx []) (by simp) (by simp) (by simp)⟩
  · rw [if_neg c] at rq3 oc3 M5 If
    rw [if_pos c, if_neg c]
    have hA := gAdv_le (gu G (243 + 10 * f + l) u) l
    obtain ⟨h4, q4, P4, oc4⟩ := c_offerOf rq3 I1.1 oc3 hl
    have rq4 := P4.rq rq3
    have hv : min u (gAdv (gu G (243 + 10 * f + l) u) l) ≤ 1000000 := by omega
    generalize hv2 : min u (gAdv (gu G (243 + 10 * f + l) u) l) = v at *
    generalize hG1 : gu G (243 + 10 * f + l) u = G1 at *
    have t8 : G1 (23 + 11 * f + 8) = 1 := by rw [← hG1, gu_ne (by omega)]; exact hw
    have t10 : G1 (23 + 11 * f + 10) = u := by rw [← hG1, gu_ne (by omega)]; exact eu
    have d16 : h3.1 16 f = nI u := by
      have := ((rq3.2.2.2.1 f hf ht1).2.2.1 (show gWay G1 f ≠ 0 by unfold gWay; omega)).2
      exact this.trans (congrArg nI t10)
    have b14 : h4.1 14 f = nI 1 := ((rq4.2.2.2.1 f hf ht1).2.1).trans (congrArg nI t8)
    have rp5 : RP (1 + 1) (th_up h4 16 f (nI v)) G1 := rq4.1.off (fun c x y _ => by rw [up_cell (by omega)]) (by rw [up_cell (by omega)])
    have ql : fX1_lowestFrom 1 (nI f) (nI (l + 1)) (th_up h4 16 f (nI v)) = some (nI (oE (nxF G1 f (9 - l) (l + 1))), th_up h4 16 f (nI v)) := by
      unfold fX1_lowestFrom
      rw [c_lowest rp5 I1.1.1 hf (9 - l) (l + 1) 1000 (by omega) (by omega), enc_oE]
    have M6 := M5.up (k := 23 + 11 * f + 10) (v := v)
    have S6 : SP G1 (gu G1 (23 + 11 * f + 10) v) := SP.up (Or.inr (Or.inr (Or.inr ⟨f, 10, rfl, by omega, by omega⟩)))
    have qn : fX4_nextLink (nI f) (nI l) 1 (th_up m5 2 (23 + 11 * f + 10) (nI v)) = some (nI (oE (nxF G1 f (9 - l) (l + 1))), th_up m5 2 (23 + 11 * f + 10) (nI v)) := by
      unfold fX4_nextLink
      rw [nI_1, m_next M6.1 (S6.IQ I1.1.1) hf (9 - l) (l + 1) 1000 (by omega) (by omega), nxF_sp S6 hf, enc_oE]
    have M7 := M6.up (k := 23 + 11 * f + 9) (v := oE (nxF G1 f (9 - l) (l + 1)))
    rw [show enc (some v) = nI v from rfl, if_neg (show ¬ nI v = -1 by rw [e_ne1 (by omega)]; exact id), e_rd hf (by omega), d16, q4, e_bd, e_mn (by omega) (by omega), hv2, e_wr hf (by omega), nI_1, ql, e_bd, e_wr hf (by omega), e_rd hf (by omega), up_same, e_wr (by omega) (by omega), qn, e_bd, e_wr (by omega) (by omega), e_rd (a := 2) (n := 643) (by omega) (by omega), up_same]
    obtain ⟨rq, oc, Z⟩ := wy rq4 oc4 hf ht1 1 (oE (nxF G1 f (9 - l) (l + 1))) v
    have es : th_up (th_up (th_up h4 16 f (nI v)) 15 f (nI (oE (nxF G1 f (9 - l) (l + 1))))) 14 f (nI 1) = th_up (th_up h4 16 f (nI v)) 15 f (nI (oE (nxF G1 f (9 - l) (l + 1)))) := up_self (by rw [up_cell (by omega), up_cell (by omega)]; exact b14)
    have eg : gu (gu (gu G1 (23 + 11 * f + 10) v) (23 + 11 * f + 9) (oE (nxF G1 f (9 - l) (l + 1)))) (23 + 11 * f + 8) 1 = gu (gu G1 (23 + 11 * f + 10) v) (23 + 11 * f + 9) (oE (nxF G1 f (9 - l) (l + 1))) := gu_same (by rw [gu_ne (by omega), gu_ne (by omega)]; exact t8)
    rw [es] at rq oc Z
    have Sw : SP G1 (gu (gu (gu G1 (23 + 11 * f + 10) v) (23 + 11 * f + 9) (oE (nxF G1 f (9 - l) (l + 1)))) (23 + 11 * f + 8) 1) := wy_sp
    cases e : nxF G1 f (9 - l) (l + 1) with
    | some r =>
      obtain ⟨r1, r2⟩ := nxF_ok (9 - l) (l + 1) r (by omega) e
      have r3 : gTh G1 f = true ∧ (gPath G1 f).testBit r = true := by simpa [gOv] using r2
      have ii := wy_ii I1 hf (w := 1) (x := r) (y := v) (by omega) (fun _ => ⟨r1, r3.2, hv⟩) (by omega) (by omega)
      rw [e] at rq oc Z M7 eg Sw
      have ne : ¬ nI (oE (some r)) = -1 := by
        show ¬ nI r = -1
        rw [e_ne1 (by omega)]
        exact id
      rw [if_neg ne, if_neg ne]
      rw [eg] at rq oc Sw
      have ii2 : II (gu (gu G1 (23 + 11 * f + 10) v) (23 + 11 * f + 9) (oE (some r))) := by rw [← eg]; exact ii
      exact ⟨_, _, _, _, rfl, rfl, R.pz0 hn (((Z2.tr Z3).tr P4.pz).tr Z) rq oc ii2 (S1.tr Sw).sq (M7.mx []) (by simp) (by simp) (by simp)⟩
    | none =>
      rw [e] at rq oc Z M7 eg Sw
      rw [if_pos (show nI (oE none) = -1 from e_m1.symm), if_pos (show nI (oE none) = -1 from e_m1.symm)]
      rw [eg] at rq oc Sw
      have b9 : oE none = 4294967295 := rfl
      rw [b9] at rq oc Z M7 Sw ⊢
      have v16b : (th_up (th_up h4 16 f (nI v)) 15 f (nI 4294967295)).1 16 f = nI v := by rw [up_cell (by omega), up_same]
      generalize hG9 : gu (gu G1 (23 + 11 * f + 10) v) (23 + 11 * f + 9) 4294967295 = G9 at *
      generalize hh9 : th_up (th_up h4 16 f (nI v)) 15 f (nI 4294967295) = h9 at *
      have ht9 : gTh G9 f = true := by rw [Sw.th hf]; exact ht1
      have I9 : ∀ g, g < 20 → gTh G9 g = true → gTold G9 g < 4294967296 := by
        intro g hg hg2
        rw [Sw.th hg] at hg2
        have t7 : gTold G9 g = gTold G1 g := by rw [← hG9]; unfold gTold; rw [gu_ne (by omega), gu_ne (by omega)]
        rw [t7]
        have := I1.told hg hg2
        omega
      obtain ⟨h13, q13, rq13, oc13, Z13, -⟩ := c_tell rq oc I9 hf ht9 hv
      have S13 : SP G9 (gu G9 (23 + 11 * f + 7) v) := SP.up (Or.inr (Or.inr (Or.inr ⟨f, 7, rfl, by omega, by omega⟩)))
      have ht13 : gTh (gu G9 (23 + 11 * f + 7) v) f = true := by rw [S13.th hf]; exact ht9
      have M8 := M7.up (k := 23 + 11 * f + 7) (v := v)
      have M9 := M8.up (k := 23 + 11 * f + 8) (v := 2)
      have M10 := M9.up (k := 23 + 11 * f + 9) (v := l)
      have M11 := M10.up (k := 23 + 11 * f + 10) (v := 1000000)
      rw [e_rd hf (by omega), v16b, q13, e_bd, e_wr hf (by omega), e_wr hf (by omega), e_wr hf (by omega), e_addl, e_wr (by omega) (by omega), e_wr (by omega) (by omega), e_wr (by omega) (by omega), e_wr (by omega) (by omega)]
      obtain ⟨rqe, oce, Ze⟩ := wy rq13 oc13 hf ht13 2 l 1000000
      obtain ⟨I7, S7⟩ := I1.up (k := 23 + 11 * f + 7) (v := v) (Or.inr (Or.inr (Or.inr ⟨f, hf, rfl, hv⟩)))
      have iie := wy_ii I7 hf (w := 2) (x := l) (y := 1000000) (by omega) (fun _ => ⟨hl, by rw [S7.path hf, S1.path hf]; exact hb, by omega⟩) (by omega) (by omega)
      have egg : gu (gu (gu (gu G9 (23 + 11 * f + 7) v) (23 + 11 * f + 10) 1000000) (23 + 11 * f + 9) l) (23 + 11 * f + 8) 2 = gu (gu (gu (gu G1 (23 + 11 * f + 7) v) (23 + 11 * f + 10) 1000000) (23 + 11 * f + 9) l) (23 + 11 * f + 8) 2 := by
        rw [← hG9]
        funext k
        unfold gu
        by_cases k8 : k = 23 + 11 * f + 8
        · rw [if_pos k8, if_pos k8]
        · by_cases k9 : k = 23 + 11 * f + 9
          · simp only [if_neg k8, if_pos k9]
          · by_cases k10 : k = 23 + 11 * f + 10
            · simp only [if_neg k8, if_neg k9, if_pos k10]
            · simp only [if_neg k8, if_neg k9, if_neg k10]
      have eM : MF m (th_up (th_up (th_up (th_up (th_up (th_up m5 2 (23 + 11 * f + 10) (nI v)) 2 (23 + 11 * f + 9) (nI 4294967295)) 2 (23 + 11 * f + 7) (nI v)) 2 (23 + 11 * f + 8) (nI 2)) 2 (23 + 11 * f + 9) (nI l)) 2 (23 + 11 * f + 10) (nI 1000000)) (gu (gu (gu (gu G9 (23 + 11 * f + 7) v) (23 + 11 * f + 10) 1000000) (23 + 11 * f + 9) l) (23 + 11 * f + 8) 2) := M11.cong (fun k _ => by
        unfold gu
        by_cases k8 : k = 23 + 11 * f + 8
        · rw [if_pos k8, if_neg (by omega), if_neg (by omega), if_pos k8]
        · rw [if_neg k8]
          by_cases k9 : k = 23 + 11 * f + 9
          · rw [if_pos k9, if_neg (by omega), if_pos k9]
          · rw [if_neg k9]
            by_cases k10 : k = 23 + 11 * f + 10
            · rw [if_pos k10, if_pos k10]
            · rw [if_neg k10, if_neg k10, if_neg k9, if_neg k8])
      have heq : th_up (th_up (th_up h13 16 f (nI 1000000)) 15 f (nI l)) 14 f (nI 2) = th_up (th_up (th_up h13 14 f (nI 2)) 15 f (nI l)) 16 f (nI 1000000) := by
        refine Prod.ext ?_ rfl
        funext c j
        rw [up_at, up_at, up_at, up_at, up_at, up_at]
        by_cases c14 : c = 14 ∧ j = f
        · rw [if_pos c14, if_neg (by omega), if_neg (by omega), if_pos c14]
        · rw [if_neg c14, if_neg c14]
          by_cases c15 : c = 15 ∧ j = f
          · rw [if_pos c15, if_neg (by omega), if_pos c15]
          · rw [if_neg c15, if_neg c15]
      rw [heq] at rqe oce Ze
      have Se : SP (gu G9 (23 + 11 * f + 7) v) (gu (gu (gu (gu G9 (23 + 11 * f + 7) v) (23 + 11 * f + 10) 1000000) (23 + 11 * f + 9) l) (23 + 11 * f + 8) 2) := wy_sp
      rw [← egg] at iie
      exact ⟨_, _, _, _, rfl, rfl, R.pz0 hn (((((Z2.tr Z3).tr P4.pz).tr Z).tr Z13).tr Ze) rqe oce iie (((S1.tr Sw).tr S13).tr Se).sq (eM.mx []) (by simp) (by simp) (by simp)⟩
end
theorem s_hop (x : Int32) : Sp2 (fX3_hop x) (fX4_hop x) := by
  intro n h m hn ⟨G, R⟩
  have R0 := R.th0
  unfold fX3_hop fX4_hop
  simp only [bd1]
  rw [e_st]
  rcases R0.flow x with ⟨a, b⟩ | ⟨f, hf, e, ht, a, b⟩
  · rw [a, b, e_bd, e_bd, if_pos rfl, if_pos rfl]
    exact R.no (w := 1) (by omega)
  · have hw2 : gWay G f ≤ 2 := (R.2.2.1.2.2 f hf ht).2.2.2.1
    have g8 : G (23 + 11 * f + 8) = gWay G f := rfl
    have v14 : h.1 14 f = nI (gWay G f) := (R.1.2.2.2.1 f hf ht).2.1
    rw [a, b, e_bd, e_bd, if_neg (by decide), if_neg (by decide), e, m_at, e_bd, e_addl, m_row R0.2.1 (by omega), g8]
    unfold fX1_goOn
    rw [e_rd hf (by omega), v14, ic (e_eql (n := 0) (show gWay G f < 2147483648 by omega) (by decide)), ic (e_eql (n := 0) (show gWay G f < 2147483648 by omega) (by decide))]
    by_cases c : gWay G f = 0
    · obtain ⟨h2, m2, G', p1, p2, R1, ht1, w1⟩ := hop_begin R0 hn hf ht
      rw [if_pos c, if_pos c, p1 (fun h8 => fX1_goOn_c52 1 (nI f) h8)]
      have p3 := p2 (fun h14 => fX4_hop_c86 (nI f) (nI (23 + 11 * f)) h14)
      rw [e_addl] at p3
      rw [p3]
      obtain ⟨r, h3, m3, G3, a1, a2, R3⟩ := hop_forth R1 hn hf ht1 w1
      exact ⟨r, h3, m3, a1, a2, G3, R3.inc⟩
    · rw [if_neg c, if_neg c]
      by_cases c1 : gWay G f = 1
      · obtain ⟨r, h3, m3, G3, a1, a2, R3⟩ := hop_forth R0 hn hf ht c1
        exact ⟨r, h3, m3, a1, a2, G3, R3.inc⟩
      · obtain ⟨r, h3, m3, G3, a1, a2, R3⟩ := hop_back R0 hn hf ht (by omega)
        exact ⟨r, h3, m3, a1, a2, G3, R3.inc⟩
