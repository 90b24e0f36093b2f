/-! ===== the law's loop ===== -/
theorem lw_and (x : Int32) : ∃ k : Nat, k < 64 ∧ x &&& 63 = nI k := by
  have h2 : (x &&& 63).toBitVec.toNat ≤ 63 := by
    rw [Int32.toBitVec_and, BitVec.toNat_and]
    exact Nat.and_le_right
  refine ⟨(x &&& 63).toBitVec.toNat, by omega, ?_⟩
  apply Int32.toBitVec_inj.mp
  show (x &&& 63).toBitVec = BitVec.ofNat 32 (x &&& 63).toBitVec.toNat
  simp
theorem dL_head : th_dec code [(23, .iload 4, 2), (25, .aload_n 0, 1), (26, .arraylength, 1), (27, .bipush 6, 2), (29, .isub, 1), (30, .if_icmp .gt 1796, 3), (33, .aload_n 0, 1), (34, .iload 4, 2), (36, .iaload, 1), (37, .bipush 63, 2), (39, .iand, 1), (40, .tableswitch 1780 0 44 #[196, 233, 306, 331, 380, 433, 470, 507, 532, 557, 582, 595, 620, 645, 682, 750, 775, 843, 880, 905, 942, 967, 1035, 1060, 1086, 1111, 1148, 1197, 1222, 1235, 1260, 1309, 1346, 1360, 1421, 1458, 1495, 1532, 1557, 1582, 1619, 1668, 1681, 1706, 1755], 196)] = true := by decide +kernel
section
variable {p : Program} {l : Launch} {e : Env} {s : State} {m : MethodId} {below : List Frame} {meth : Method} {c : Code} {b L : Nat} {xs : Nat → Int32} {D : va_G} {cI cZ cJ : ClassId} {adC adM : Nat → Nat} {qo sa : Nat} {h mm : th_H} {o : Int64} {cells slots i n : Nat}
/-- one more call is there, or the end -/
theorem L_head (X : lw_X p s m meth c b L xs D cI cZ cJ adC adM qo sa) (hL : L ≤ 3072) (hi : i ≤ 3072) (kx : lw_V p l e s m below meth c b D cI cZ cJ adC adM qo cells slots 1826 i [] [] h mm o) (kk : i + 6 ≤ L → lw_V p l e s m below meth c b D cI cZ cJ adC adM qo cells slots 33 i [] [] h mm o) : lw_V p l e s m below meth c b D cI cZ cJ adC adM qo cells slots 23 i [] [] h mm o := by
  intro H locs a hJ hl
  refine lv_iload X.1.1 X.1.2.1 (th_da dL_head 0 rfl) (lv_at hl 4 rfl) ?_
  refine lv_aload_n X.1.1 X.1.2.1 (th_da dL_head 1 rfl) rfl (lv_at hl 0 rfl) ?_
  refine va_slen (A := lw_A s) X.1.1 X.1.2.1 X.1.2.2.2.2.2.2.1 X.1.2.2.2.2.2.2.2.1 (Nat.not_le.mpr X.1.2.2.2.2.2.2.2.1) hJ.2.2.2 (th_da dL_head 2 rfl) ?_
  refine lv_bipush (v := 6) X.1.1 X.1.2.1 (th_da dL_head 3 rfl) (by decide) ?_
  refine lv_isub X.1.1 X.1.2.1 (th_da dL_head 4 rfl) ?_
  refine lv_icmp_gt (tgt := 1826) X.1.1 X.1.2.1 (th_da dL_head 5 rfl) (by decide) (fun _ => kx H locs a hJ hl) (fun z => kk ?_ H locs a hJ hl)
  have z : ¬ nI L - nI 6 < nI i := z
  by_cases q : 6 ≤ L
  · rw [pk_sub q] at z
    rcases Nat.lt_or_ge (L - 6) i with w | w
    · exact absurd (nI_lt w (by omega)) z
    · omega
  · exfalso
    exact z (Int32.lt_of_lt_of_le (pk_sneg (by omega) (by omega)) (nI_pos' (by omega)))
set_option maxHeartbeats 4000000 in
set_option maxRecDepth 100000 in
/-- which call -/
theorem L_disp (X : lw_X p s m meth c b L xs D cI cZ cJ adC adM qo sa) (hlt : l.stackTraces = false) (hL : L ≤ 3072) (hi : i + 6 ≤ L) (hn : n < 512) (hR : Rel n h mm) (hcs : cells + 1 ≤ 1134 ∧ slots + 6 ≤ 14355) (kk : ∀ h2 m2 o2, Rel (n + 1) h2 m2 → lw_V p l e s m below meth c b D cI cZ cJ adC adM qo (cells + 1) (slots + 6) 23 (i + 6) [] [] h2 m2 o2) : lw_V p l e s m below meth c b D cI cZ cJ adC adM qo cells slots 33 i [] [] h mm o := by
  intro H locs a hJ hl
  refine lv_aload_n X.1.1 X.1.2.1 (th_da dL_head 6 rfl) rfl (lv_at hl 0 rfl) ?_
  refine lv_iload X.1.1 X.1.2.1 (th_da dL_head 7 rfl) (lv_at hl 4 rfl) ?_
  refine va_sld (A := lw_A s) X.1.1 X.1.2.1 X.1.2.2.2.2.2.2.1 X.1.2.2.2.2.2.2.2.1 (Nat.not_le.mpr X.1.2.2.2.2.2.2.2.1) hJ.2.2.2 (vp_in_nI (show i < L by omega) (by omega)) (th_da dL_head 8 rfl) ?_
  refine lv_bipush (v := 63) X.1.1 X.1.2.1 (th_da dL_head 9 rfl) (by decide) ?_
  refine lv_iand X.1.1 X.1.2.1 (th_da dL_head 10 rfl) ?_
  obtain ⟨k, hk, ek⟩ := lw_and (xs (nI i).toNatClampNeg)
  rw [ek]
  clear ek
  by_cases z0 : k = 0
  · subst z0
    exact lv_tableIn (tgt := 236) X.1.1 X.1.2.1 (th_da dL_head 11 rfl) (by decide) (by decide) (off := 196) rfl (by decide) (lc_0 X hL hi hn hR hcs kk H locs a hJ hl)
  by_cases z1 : k = 1
  · subst z1
    exact lv_tableIn (tgt := 273) X.1.1 X.1.2.1 (th_da dL_head 11 rfl) (by decide) (by decide) (off := 233) rfl (by decide) (lc_1 X hL hi hn hR hcs kk H locs a hJ hl)
  by_cases z2 : k = 2
  · subst z2
    exact lv_tableIn (tgt := 346) X.1.1 X.1.2.1 (th_da dL_head 11 rfl) (by decide) (by decide) (off := 306) rfl (by decide) (lc_2 X hL hi hn hR hcs kk H locs a hJ hl)
  by_cases z3 : k = 3
  · subst z3
    exact lv_tableIn (tgt := 371) X.1.1 X.1.2.1 (th_da dL_head 11 rfl) (by decide) (by decide) (off := 331) rfl (by decide) (lc_3 X hL hi hn hR hcs kk H locs a hJ hl)
  by_cases z4 : k = 4
  · subst z4
    exact lv_tableIn (tgt := 420) X.1.1 X.1.2.1 (th_da dL_head 11 rfl) (by decide) (by decide) (off := 380) rfl (by decide) (lc_4 X hL hi hn hR hcs kk H locs a hJ hl)
  by_cases z5 : k = 5
  · subst z5
    exact lv_tableIn (tgt := 473) X.1.1 X.1.2.1 (th_da dL_head 11 rfl) (by decide) (by decide) (off := 433) rfl (by decide) (lc_5 X hL hi hn hR hcs kk H locs a hJ hl)
  by_cases z6 : k = 6
  · subst z6
    exact lv_tableIn (tgt := 510) X.1.1 X.1.2.1 (th_da dL_head 11 rfl) (by decide) (by decide) (off := 470) rfl (by decide) (lc_6 X hL hi hn hR hcs kk H locs a hJ hl)
  by_cases z7 : k = 7
  · subst z7
    exact lv_tableIn (tgt := 547) X.1.1 X.1.2.1 (th_da dL_head 11 rfl) (by decide) (by decide) (off := 507) rfl (by decide) (lc_7 X hL hi hn hR hcs kk H locs a hJ hl)
  by_cases z8 : k = 8
  · subst z8
    exact lv_tableIn (tgt := 572) X.1.1 X.1.2.1 (th_da dL_head 11 rfl) (by decide) (by decide) (off := 532) rfl (by decide) (lc_8 X hL hi hn hR hcs kk H locs a hJ hl)
  by_cases z9 : k = 9
  · subst z9
    exact lv_tableIn (tgt := 597) X.1.1 X.1.2.1 (th_da dL_head 11 rfl) (by decide) (by decide) (off := 557) rfl (by decide) (lc_9 X hL hi hn hR hcs kk H locs a hJ hl)
  by_cases z10 : k = 10
  · subst z10
    exact lv_tableIn (tgt := 622) X.1.1 X.1.2.1 (th_da dL_head 11 rfl) (by decide) (by decide) (off := 582) rfl (by decide) (lc_10 X hL hi hn hR hcs kk H locs a hJ hl)
  by_cases z11 : k = 11
  · subst z11
    exact lv_tableIn (tgt := 635) X.1.1 X.1.2.1 (th_da dL_head 11 rfl) (by decide) (by decide) (off := 595) rfl (by decide) (lc_11 X hL hi hn hR hcs kk H locs a hJ hl)
  by_cases z12 : k = 12
  · subst z12
    exact lv_tableIn (tgt := 660) X.1.1 X.1.2.1 (th_da dL_head 11 rfl) (by decide) (by decide) (off := 620) rfl (by decide) (lc_12 X hL hi hn hR hcs kk H locs a hJ hl)
  by_cases z13 : k = 13
  · subst z13
    exact lv_tableIn (tgt := 685) X.1.1 X.1.2.1 (th_da dL_head 11 rfl) (by decide) (by decide) (off := 645) rfl (by decide) (lc_13 X hL hi hn hR hcs kk H locs a hJ hl)
  by_cases z14 : k = 14
  · subst z14
    exact lv_tableIn (tgt := 722) X.1.1 X.1.2.1 (th_da dL_head 11 rfl) (by decide) (by decide) (off := 682) rfl (by decide) (lc_14 X hlt hL hi hn hR hcs kk H locs a hJ hl)
  by_cases z15 : k = 15
  · subst z15
    exact lv_tableIn (tgt := 790) X.1.1 X.1.2.1 (th_da dL_head 11 rfl) (by decide) (by decide) (off := 750) rfl (by decide) (lc_15 X hL hi hn hR hcs kk H locs a hJ hl)
  by_cases z16 : k = 16
  · subst z16
    exact lv_tableIn (tgt := 815) X.1.1 X.1.2.1 (th_da dL_head 11 rfl) (by decide) (by decide) (off := 775) rfl (by decide) (lc_16 X hlt hL hi hn hR hcs kk H locs a hJ hl)
  by_cases z17 : k = 17
  · subst z17
    exact lv_tableIn (tgt := 883) X.1.1 X.1.2.1 (th_da dL_head 11 rfl) (by decide) (by decide) (off := 843) rfl (by decide) (lc_17 X hL hi hn hR hcs kk H locs a hJ hl)
  by_cases z18 : k = 18
  · subst z18
    exact lv_tableIn (tgt := 920) X.1.1 X.1.2.1 (th_da dL_head 11 rfl) (by decide) (by decide) (off := 880) rfl (by decide) (lc_18 X hL hi hn hR hcs kk H locs a hJ hl)
  by_cases z19 : k = 19
  · subst z19
    exact lv_tableIn (tgt := 945) X.1.1 X.1.2.1 (th_da dL_head 11 rfl) (by decide) (by decide) (off := 905) rfl (by decide) (lc_19 X hL hi hn hR hcs kk H locs a hJ hl)
  by_cases z20 : k = 20
  · subst z20
    exact lv_tableIn (tgt := 982) X.1.1 X.1.2.1 (th_da dL_head 11 rfl) (by decide) (by decide) (off := 942) rfl (by decide) (lc_20 X hL hi hn hR hcs kk H locs a hJ hl)
  by_cases z21 : k = 21
  · subst z21
    exact lv_tableIn (tgt := 1007) X.1.1 X.1.2.1 (th_da dL_head 11 rfl) (by decide) (by decide) (off := 967) rfl (by decide) (lc_21 X hlt hL hi hn hR hcs kk H locs a hJ hl)
  by_cases z22 : k = 22
  · subst z22
    exact lv_tableIn (tgt := 1075) X.1.1 X.1.2.1 (th_da dL_head 11 rfl) (by decide) (by decide) (off := 1035) rfl (by decide) (lc_22 X hL hi hn hR hcs kk H locs a hJ hl)
  by_cases z23 : k = 23
  · subst z23
    exact lv_tableIn (tgt := 1100) X.1.1 X.1.2.1 (th_da dL_head 11 rfl) (by decide) (by decide) (off := 1060) rfl (by decide) (lc_23 X hL hi hn hR hcs kk H locs a hJ hl)
  by_cases z24 : k = 24
  · subst z24
    exact lv_tableIn (tgt := 1126) X.1.1 X.1.2.1 (th_da dL_head 11 rfl) (by decide) (by decide) (off := 1086) rfl (by decide) (lc_24 X hL hi hn hR hcs kk H locs a hJ hl)
  by_cases z25 : k = 25
  · subst z25
    exact lv_tableIn (tgt := 1151) X.1.1 X.1.2.1 (th_da dL_head 11 rfl) (by decide) (by decide) (off := 1111) rfl (by decide) (lc_25 X hL hi hn hR hcs kk H locs a hJ hl)
  by_cases z26 : k = 26
  · subst z26
    exact lv_tableIn (tgt := 1188) X.1.1 X.1.2.1 (th_da dL_head 11 rfl) (by decide) (by decide) (off := 1148) rfl (by decide) (lc_26 X hL hi hn hR hcs kk H locs a hJ hl)
  by_cases z27 : k = 27
  · subst z27
    exact lv_tableIn (tgt := 1237) X.1.1 X.1.2.1 (th_da dL_head 11 rfl) (by decide) (by decide) (off := 1197) rfl (by decide) (lc_27 X hL hi hn hR hcs kk H locs a hJ hl)
  by_cases z28 : k = 28
  · subst z28
    exact lv_tableIn (tgt := 1262) X.1.1 X.1.2.1 (th_da dL_head 11 rfl) (by decide) (by decide) (off := 1222) rfl (by decide) (lc_28 X hL hi hn hR hcs kk H locs a hJ hl)
  by_cases z29 : k = 29
  · subst z29
    exact lv_tableIn (tgt := 1275) X.1.1 X.1.2.1 (th_da dL_head 11 rfl) (by decide) (by decide) (off := 1235) rfl (by decide) (lc_29 X hL hi hn hR hcs kk H locs a hJ hl)
  by_cases z30 : k = 30
  · subst z30
    exact lv_tableIn (tgt := 1300) X.1.1 X.1.2.1 (th_da dL_head 11 rfl) (by decide) (by decide) (off := 1260) rfl (by decide) (lc_30 X hL hi hn hR hcs kk H locs a hJ hl)
  by_cases z31 : k = 31
  · subst z31
    exact lv_tableIn (tgt := 1349) X.1.1 X.1.2.1 (th_da dL_head 11 rfl) (by decide) (by decide) (off := 1309) rfl (by decide) (lc_31 X hL hi hn hR hcs kk H locs a hJ hl)
  by_cases z32 : k = 32
  · subst z32
    exact lv_tableIn (tgt := 1386) X.1.1 X.1.2.1 (th_da dL_head 11 rfl) (by decide) (by decide) (off := 1346) rfl (by decide) (lc_32 X hL hi hn hR hcs kk H locs a hJ hl)
  by_cases z33 : k = 33
  · subst z33
    exact lv_tableIn (tgt := 1400) X.1.1 X.1.2.1 (th_da dL_head 11 rfl) (by decide) (by decide) (off := 1360) rfl (by decide) (lc_33 X hL hi hn hR hcs kk H locs a hJ hl)
  by_cases z34 : k = 34
  · subst z34
    exact lv_tableIn (tgt := 1461) X.1.1 X.1.2.1 (th_da dL_head 11 rfl) (by decide) (by decide) (off := 1421) rfl (by decide) (lc_34 X hL hi hn hR hcs kk H locs a hJ hl)
  by_cases z35 : k = 35
  · subst z35
    exact lv_tableIn (tgt := 1498) X.1.1 X.1.2.1 (th_da dL_head 11 rfl) (by decide) (by decide) (off := 1458) rfl (by decide) (lc_35 X hL hi hn hR hcs kk H locs a hJ hl)
  by_cases z36 : k = 36
  · subst z36
    exact lv_tableIn (tgt := 1535) X.1.1 X.1.2.1 (th_da dL_head 11 rfl) (by decide) (by decide) (off := 1495) rfl (by decide) (lc_36 X hL hi hn hR hcs kk H locs a hJ hl)
  by_cases z37 : k = 37
  · subst z37
    exact lv_tableIn (tgt := 1572) X.1.1 X.1.2.1 (th_da dL_head 11 rfl) (by decide) (by decide) (off := 1532) rfl (by decide) (lc_37 X hL hi hn hR hcs kk H locs a hJ hl)
  by_cases z38 : k = 38
  · subst z38
    exact lv_tableIn (tgt := 1597) X.1.1 X.1.2.1 (th_da dL_head 11 rfl) (by decide) (by decide) (off := 1557) rfl (by decide) (lc_38 X hL hi hn hR hcs kk H locs a hJ hl)
  by_cases z39 : k = 39
  · subst z39
    exact lv_tableIn (tgt := 1622) X.1.1 X.1.2.1 (th_da dL_head 11 rfl) (by decide) (by decide) (off := 1582) rfl (by decide) (lc_39 X hL hi hn hR hcs kk H locs a hJ hl)
  by_cases z40 : k = 40
  · subst z40
    exact lv_tableIn (tgt := 1659) X.1.1 X.1.2.1 (th_da dL_head 11 rfl) (by decide) (by decide) (off := 1619) rfl (by decide) (lc_40 X hL hi hn hR hcs kk H locs a hJ hl)
  by_cases z41 : k = 41
  · subst z41
    exact lv_tableIn (tgt := 1708) X.1.1 X.1.2.1 (th_da dL_head 11 rfl) (by decide) (by decide) (off := 1668) rfl (by decide) (lc_41 X hL hi hn hR hcs kk H locs a hJ hl)
  by_cases z42 : k = 42
  · subst z42
    exact lv_tableIn (tgt := 1721) X.1.1 X.1.2.1 (th_da dL_head 11 rfl) (by decide) (by decide) (off := 1681) rfl (by decide) (lc_42 X hL hi hn hR hcs kk H locs a hJ hl)
  by_cases z43 : k = 43
  · subst z43
    exact lv_tableIn (tgt := 1746) X.1.1 X.1.2.1 (th_da dL_head 11 rfl) (by decide) (by decide) (off := 1706) rfl (by decide) (lc_43 X hL hi hn hR hcs kk H locs a hJ hl)
  by_cases z44 : k = 44
  · subst z44
    exact lv_tableIn (tgt := 1795) X.1.1 X.1.2.1 (th_da dL_head 11 rfl) (by decide) (by decide) (off := 1755) rfl (by decide) (lc_44 X hL hi hn hR hcs kk H locs a hJ hl)
  have hk2 : 45 ≤ k := by omega
  have hki : (nI k).toInt = (k : Int) := nI_toInt (by omega)
  refine lv_tableOut (tgt := 1820) X.1.1 X.1.2.1 (th_da dL_head 11 rfl) (Or.inr (by rw [hki]; omega)) (by decide) ?_
  exact L_wide (Nat.le_add_right _ _) (Nat.le_add_right _ _) (L_next X (kk h mm o (hR.elim fun G R => ⟨G, R.inc⟩))) H locs a hJ hl
theorem lw_loop (X : lw_X p s m meth c b L xs D cI cZ cJ adC adM qo sa) (hlt : l.stackTraces = false) (hL : L ≤ 3072) : ∀ (f n : Nat), n + f = 512 → ∀ (h mm : th_H) (o : Int64), Rel n h mm → lw_V p l e s m below meth c b D cI cZ cJ adC adM qo (107 + n) (6145 + 6 * n) 23 (6 * n) [] [] h mm o := by
  intro f
  induction f with
  | zero =>
    intro n hn h mm o hR
    refine L_head X hL (by omega) (L_end X ⟨by omega, by omega⟩) (fun hi => ?_)
    exfalso
    omega
  | succ f ih =>
    intro n hn h mm o hR
    refine L_head X hL (by omega) (L_end X ⟨by omega, by omega⟩) (fun hi => ?_)
    refine L_disp X hlt hL hi (show n < 512 by omega) hR ⟨by omega, by omega⟩ (fun h2 m2 o2 hR2 => ?_)
    have q := ih (n + 1) (by omega) h2 m2 o2 hR2
    rw [show 107 + (n + 1) = 107 + n + 1 by omega, show 6145 + 6 * (n + 1) = 6145 + 6 * n + 6 by omega, show 6 * (n + 1) = 6 * n + 6 by omega] at q
    exact q
end
