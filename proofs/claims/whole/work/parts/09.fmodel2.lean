def fX4_used_c42 : Nat → Int32 → Int32 → Int32 → Int32 → Int32 → th_H → Option (Int32 × th_H)
  | 0, _, _, _, _, _, _ => none
  | n + 1, y1, y2, y3, y4, y5, h =>
    if (y5 < 20 : Prop) then
      th_bd (fX4_isFlow y5 h) fun u2 h2 =>
      if (u2 = 0 : Prop) then
        fX4_used_c42 n y1 y2 y3 (y4 + 0) (y5 + 1) h2
      else
        th_rd h2 8 20 y5 fun v4 =>
        if (v4 = y1 : Prop) then
          fX4_used_c42 n y1 y2 y3 (y4 + 1) (y5 + 1) h2
        else
          fX4_used_c42 n y1 y2 y3 (y4 + 0) (y5 + 1) h2
    else
      if (y2 = 0 : Prop) then
        some (y3, h)
      else
        if (y2 = 1 : Prop) then
          th_rd h 2 643 ((3 : Int32) + y1) fun v8 =>
          some (v8 - y3, h)
        else
          some (y4, h)
def fX4_used (x1 : Int32) (x2 : Int32) (h : th_H) : Option (Int32 × th_H) :=
  th_st (th_up h 0 0 0) fun h1 =>
  th_bd (fX4_isLink x1 h1) fun u2 h2 =>
  if (u2 = 0 : Prop) then
    some ((-1), h2)
  else
    th_bd (fX4_in (Int32.toInt64 x2) 0 2 h2) fun u4 h4 =>
    if (u4 = 0 : Prop) then
      some ((-1), h4)
    else
      th_bd (fX4_layFair h4) fun _u6 h6 =>
      th_bd (fX4_usedOf x1 h6) fun u7 h7 =>
      fX4_used_c42 1000 x1 x2 u7 0 0 h7
def tbX4_used : List (Nat × Instr × Nat) := [(0, .aload_n 0, 1), (1, .iconst 0, 1), (2, .putfield 55, 3), (5, .iload_n 1, 1), (6, .invokestatic 82, 3), (9, .ifCond .eq 15, 3), (12, .iload_n 2, 1), (13, .i2l, 1), (14, .lconst 0, 1), (15, .ldc2_w 131, 3), (18, .invokestatic 63, 3), (21, .ifCond .ne 5, 3), (24, .iconst (-1), 1), (25, .ireturn, 1), (26, .aload_n 0, 1), (27, .invokevirtual 207, 3), (30, .aload_n 0, 1), (31, .iload_n 1, 1), (32, .invokevirtual 210, 3), (35, .istore_n 3, 1), (36, .iconst 0, 1), (37, .istore 4, 2), (39, .iconst 0, 1), (40, .istore 5, 2), (42, .iload 5, 2), (44, .bipush 20, 2), (46, .if_icmp .ge 39, 3), (49, .iload 4, 2), (51, .aload_n 0, 1), (52, .iload 5, 2), (54, .invokevirtual 125, 3), (57, .ifCond .eq 18, 3), (60, .aload_n 0, 1), (61, .getfield 34, 3), (64, .iload 5, 2), (66, .iaload, 1), (67, .iload_n 1, 1), (68, .if_icmp .ne 7, 3), (71, .iconst 1, 1), (72, .goto 4, 3), (75, .iconst 0, 1), (76, .iadd, 1), (77, .istore 4, 2), (79, .iinc 5 1, 3), (82, .goto (-40), 3), (85, .iload_n 2, 1), (86, .ifCond .ne 7, 3), (89, .iload_n 3, 1), (90, .goto 23, 3), (93, .iload_n 2, 1), (94, .iconst 1, 1), (95, .if_icmp .ne 16, 3), (98, .aload_n 0, 1), (99, .getfield 15, 3), (102, .iconst 3, 1), (103, .iload_n 1, 1), (104, .iadd, 1), (105, .iaload, 1), (106, .iload_n 3, 1), (107, .isub, 1), (108, .goto 5, 3), (111, .iload 4, 2), (113, .ireturn, 1)]
theorem dtX4_used : th_dec cX4_used tbX4_used = true := by decide +kernel
section
variable {p0 : Program} {l : Launch} {e : Env} {s : State} {m : MethodId} {args : Array Value} {below : List Frame} {meth : Method} {c : Code} {D : va_G} {cI cZ : ClassId} {ad : Nat → Nat} {rr : Int32} {hh : th_H}
set_option maxHeartbeats 4000000 in
set_option maxRecDepth 100000 in
theorem tX4_used_c42 (X : th_X p0 s m args meth c D cI cZ ad LM 6 RX4 cX4_used (some .int)) : ∀ (n : Nat) (y1 : Int32) (y2 : Int32) (y3 : Int32) (y4 : Int32) (y5 : Int32) (h : th_H), fX4_used_c42 n y1 y2 y3 y4 y5 h = some (rr, hh) → th_V p0 l e { frames := 5, cells := 0, slots := 0, locals := 115 } s m args below meth c D cI cZ ad LM 6 (some (.int rr)) hh 42 [.ref 0, .int y1, .int y2, .int y3, .int y4, .int y5] [] h := by
  intro n
  induction n with
  | zero => intro y1 y2 y3 y4 y5 h hf; cases hf
  | succ n ih =>
    intro y1 y2 y3 y4 y5 h hf
    rw [fX4_used_c42] at hf
    refine V_iload (pc := 42) X (th_da dtX4_used 24 rfl) rfl ?_
    refine V_bipush (pc := 44) (v := 20) X (th_da dtX4_used 25 rfl) (by decide) ?_
    refine V_icmp_ge (pc := 46) (tgt := 85) X (th_da dtX4_used 26 rfl) (by decide) (fun c1 => ?_) (fun c1 => ?_)
    · rw [if_pos c1] at hf
      refine V_iload (pc := 49) X (th_da dtX4_used 27 rfl) rfl ?_
      refine V_aload_n (pc := 51) X (th_da dtX4_used 28 rfl) rfl ?_
      refine V_iload (pc := 52) X (th_da dtX4_used 29 rfl) rfl ?_
      obtain ⟨u2, h2, e2, hf⟩ := th_bd_some hf
      refine V_callVi (pc := 54) (q := 0) (As := [.int y5]) X (th_da dtX4_used 30 rfl) (mX4_isFlow l _ _ _ _ e2) wcd_X4_isFlow wml_X4_125 wim_X4_isFlow wse_X4_isFlow win_X4_isFlow hd_X4_isFlow ⟨Nat.le_of_ble_eq_true rfl, Nat.le_of_ble_eq_true rfl⟩ (Nat.le_of_ble_eq_true rfl) rfl rfl rfl ?_
      refine V_if_eq (pc := 57) (tgt := 75) X (th_da dtX4_used 31 rfl) (by decide) (fun c3 => ?_) (fun c3 => ?_)
      · rw [if_pos c3] at hf
        refine V_iconst (pc := 75) (v := 0) X (th_da dtX4_used 40 rfl) (by decide) ?_
        refine V_iadd (pc := 76) X (th_da dtX4_used 41 rfl) ?_
        refine V_istore (pc := 77) (ls2 := [.ref 0, .int y1, .int y2, .int y3, .int (y4 + 0), .int y5]) X (th_da dtX4_used 42 rfl) (Nat.le_of_ble_eq_true rfl) rfl rfl ?_
        refine V_iinc (pc := 79) (v := y5 + 1) (ls2 := [.ref 0, .int y1, .int y2, .int y3, .int (y4 + 0), .int (y5 + 1)]) X (th_da dtX4_used 43 rfl) rfl rfl (Nat.le_of_ble_eq_true rfl) rfl rfl ?_
        refine V_goto (pc := 82) (tgt := 42) X (th_da dtX4_used 44 rfl) (by decide) ?_
        exact ih _ _ _ _ _ _ hf
      · rw [if_neg c3] at hf
        refine V_aload_n (pc := 60) X (th_da dtX4_used 32 rfl) rfl ?_
        refine V_getR (pc := 61) (j := 8) (t := 8) X (th_da dtX4_used 33 rfl) wfl_X4_34 iX4 rfl rfl (Nat.le_of_ble_eq_true rfl) rfl ?_
        refine V_iload (pc := 64) X (th_da dtX4_used 34 rfl) rfl ?_
        obtain ⟨v4, e4, g4, hf⟩ := th_rd_some hf
        refine V_iald (pc := 66) X (th_da dtX4_used 35 rfl) rfl g4 e4 ?_
        refine V_iload_n (pc := 67) X (th_da dtX4_used 36 rfl) rfl ?_
        refine V_icmp_ne (pc := 68) (tgt := 75) X (th_da dtX4_used 37 rfl) (by decide) (fun c5 => ?_) (fun c5 => ?_)
        · rw [if_pos c5] at hf
          refine V_iconst (pc := 71) (v := 1) X (th_da dtX4_used 38 rfl) (by decide) ?_
          refine V_goto (pc := 72) (tgt := 76) X (th_da dtX4_used 39 rfl) (by decide) ?_
          refine V_iadd (pc := 76) X (th_da dtX4_used 41 rfl) ?_
          refine V_istore (pc := 77) (ls2 := [.ref 0, .int y1, .int y2, .int y3, .int (y4 + 1), .int y5]) X (th_da dtX4_used 42 rfl) (Nat.le_of_ble_eq_true rfl) rfl rfl ?_
          refine V_iinc (pc := 79) (v := y5 + 1) (ls2 := [.ref 0, .int y1, .int y2, .int y3, .int (y4 + 1), .int (y5 + 1)]) X (th_da dtX4_used 43 rfl) rfl rfl (Nat.le_of_ble_eq_true rfl) rfl rfl ?_
          refine V_goto (pc := 82) (tgt := 42) X (th_da dtX4_used 44 rfl) (by decide) ?_
          exact ih _ _ _ _ _ _ hf
        · rw [if_neg c5] at hf
          refine V_iconst (pc := 75) (v := 0) X (th_da dtX4_used 40 rfl) (by decide) ?_
          refine V_iadd (pc := 76) X (th_da dtX4_used 41 rfl) ?_
          refine V_istore (pc := 77) (ls2 := [.ref 0, .int y1, .int y2, .int y3, .int (y4 + 0), .int y5]) X (th_da dtX4_used 42 rfl) (Nat.le_of_ble_eq_true rfl) rfl rfl ?_
          refine V_iinc (pc := 79) (v := y5 + 1) (ls2 := [.ref 0, .int y1, .int y2, .int y3, .int (y4 + 0), .int (y5 + 1)]) X (th_da dtX4_used 43 rfl) rfl rfl (Nat.le_of_ble_eq_true rfl) rfl rfl ?_
          refine V_goto (pc := 82) (tgt := 42) X (th_da dtX4_used 44 rfl) (by decide) ?_
          exact ih _ _ _ _ _ _ hf
    · rw [if_neg c1] at hf
      refine V_iload_n (pc := 85) X (th_da dtX4_used 45 rfl) rfl ?_
      refine V_if_ne (pc := 86) (tgt := 93) X (th_da dtX4_used 46 rfl) (by decide) (fun c6 => ?_) (fun c6 => ?_)
      · rw [if_pos c6] at hf
        refine V_iload_n (pc := 89) X (th_da dtX4_used 47 rfl) rfl ?_
        refine V_goto (pc := 90) (tgt := 113) X (th_da dtX4_used 48 rfl) (by decide) ?_
        exact V_iretF (pc := 113) X (th_da dtX4_used 62 rfl) hf
      · rw [if_neg c6] at hf
        refine V_iload_n (pc := 93) X (th_da dtX4_used 49 rfl) rfl ?_
        refine V_iconst (pc := 94) (v := 1) X (th_da dtX4_used 50 rfl) (by decide) ?_
        refine V_icmp_ne (pc := 95) (tgt := 111) X (th_da dtX4_used 51 rfl) (by decide) (fun c7 => ?_) (fun c7 => ?_)
        · rw [if_pos c7] at hf
          refine V_aload_n (pc := 98) X (th_da dtX4_used 52 rfl) rfl ?_
          refine V_getR (pc := 99) (j := 2) (t := 2) X (th_da dtX4_used 53 rfl) wfl_X4_15 iX4 rfl rfl (Nat.le_of_ble_eq_true rfl) rfl ?_
          refine V_iconst (pc := 102) (v := 3) X (th_da dtX4_used 54 rfl) (by decide) ?_
          refine V_iload_n (pc := 103) X (th_da dtX4_used 55 rfl) rfl ?_
          refine V_iadd (pc := 104) X (th_da dtX4_used 56 rfl) ?_
          obtain ⟨v8, e8, g8, hf⟩ := th_rd_some hf
          refine V_iald (pc := 105) X (th_da dtX4_used 57 rfl) rfl g8 e8 ?_
          refine V_iload_n (pc := 106) X (th_da dtX4_used 58 rfl) rfl ?_
          refine V_isub (pc := 107) X (th_da dtX4_used 59 rfl) ?_
          refine V_goto (pc := 108) (tgt := 113) X (th_da dtX4_used 60 rfl) (by decide) ?_
          exact V_iretF (pc := 113) X (th_da dtX4_used 62 rfl) hf
        · rw [if_neg c7] at hf
          refine V_iload (pc := 111) X (th_da dtX4_used 61 rfl) rfl ?_
          exact V_iretF (pc := 113) X (th_da dtX4_used 62 rfl) hf
set_option maxHeartbeats 4000000 in
set_option maxRecDepth 100000 in
theorem mX4_used (l : Launch) (x1 : Int32) (x2 : Int32) (h : th_H) (rr : Int32) (hh : th_H) (hf : fX4_used x1 x2 h = some (rr, hh)) : th_MI l LM yX4_used cX4_used 6 (some .int) 5 115 [.ref 0, .int x1, .int x2] h (some (.int rr)) hh := by
  refine th_MI_of (ls := [.ref 0, .int x1, .int x2, .null, .null, .null]) RX4 rfl rfl rfl (Nat.le_of_ble_eq_true rfl) ?_
  intro p0 e s m args below meth c D cI cZ ad X
  unfold fX4_used at hf
  refine V_aload_n (pc := 0) X (th_da dtX4_used 0 rfl) rfl ?_
  refine V_iconst (pc := 1) (v := 0) X (th_da dtX4_used 1 rfl) (by decide) ?_
  obtain ⟨h1, e1, hf⟩ := th_st_some hf
  refine V_putI (pc := 2) (j := 0) (ty := .int) X (th_da dtX4_used 2 rfl) wfl_X4_55 iX4 rfl rfl (Nat.le_of_ble_eq_true rfl) rfl tyX4 tyX4_ok nmX4 rfl (tyX4_ok 0 (Nat.le_of_ble_eq_true rfl)) rfl rfl e1 ?_
  refine V_iload_n (pc := 5) X (th_da dtX4_used 3 rfl) rfl ?_
  obtain ⟨u2, h2, e2, hf⟩ := th_bd_some hf
  refine V_callSi (pc := 6) (As := [.int x1]) X (th_da dtX4_used 4 rfl) (mX4_isLink l _ _ _ _ e2) wcd_X4_isLink wml_X4_82 wst_X4_isLink win_X4_isLink hd_X4_isLink ⟨Nat.le_of_ble_eq_true rfl, Nat.le_of_ble_eq_true rfl⟩ (Nat.le_of_ble_eq_true rfl) rfl ?_
  refine V_if_eq (pc := 9) (tgt := 24) X (th_da dtX4_used 5 rfl) (by decide) (fun c3 => ?_) (fun c3 => ?_)
  · rw [if_pos c3] at hf
    refine V_iconst (pc := 24) (v := (-1)) X (th_da dtX4_used 12 rfl) (by decide) ?_
    exact V_iretF (pc := 25) X (th_da dtX4_used 13 rfl) hf
  · rw [if_neg c3] at hf
    refine V_iload_n (pc := 12) X (th_da dtX4_used 6 rfl) rfl ?_
    refine V_i2l (pc := 13) X (th_da dtX4_used 7 rfl) ?_
    refine V_lconst (pc := 14) (v := 0) X (th_da dtX4_used 8 rfl) (by decide) ?_
    refine V_ldc2 (pc := 15) (v := 2) X (th_da dtX4_used 9 rfl) wcl_X4_131 ?_
    obtain ⟨u4, h4, e4, hf⟩ := th_bd_some hf
    refine V_callSi (pc := 18) (As := [.long (Int32.toInt64 x2), .long 0, .long 2]) X (th_da dtX4_used 10 rfl) (mX4_in l _ _ _ _ _ _ e4) wcd_X4_in wml_X4_63 wst_X4_in win_X4_in hd_X4_in ⟨Nat.le_of_ble_eq_true rfl, Nat.le_of_ble_eq_true rfl⟩ (Nat.le_of_ble_eq_true rfl) rfl ?_
    refine V_if_ne (pc := 21) (tgt := 26) X (th_da dtX4_used 11 rfl) (by decide) (fun c5 => ?_) (fun c5 => ?_)
    · rw [if_pos c5] at hf
      refine V_iconst (pc := 24) (v := (-1)) X (th_da dtX4_used 12 rfl) (by decide) ?_
      exact V_iretF (pc := 25) X (th_da dtX4_used 13 rfl) hf
    · rw [if_neg c5] at hf
      refine V_aload_n (pc := 26) X (th_da dtX4_used 14 rfl) rfl ?_
      obtain ⟨u6, h6, e6, hf⟩ := th_bd_some hf
      refine V_callVv (pc := 27) (q := 0) (As := []) X (th_da dtX4_used 15 rfl) (mX4_layFair l _ _ _ e6) wcd_X4_layFair wml_X4_207 wim_X4_layFair wse_X4_layFair win_X4_layFair hd_X4_layFair ⟨Nat.le_of_ble_eq_true rfl, Nat.le_of_ble_eq_true rfl⟩ (Nat.le_of_ble_eq_true rfl) rfl rfl rfl ?_
      refine V_aload_n (pc := 30) X (th_da dtX4_used 16 rfl) rfl ?_
      refine V_iload_n (pc := 31) X (th_da dtX4_used 17 rfl) rfl ?_
      obtain ⟨u7, h7, e7, hf⟩ := th_bd_some hf
      refine V_callVi (pc := 32) (q := 0) (As := [.int x1]) X (th_da dtX4_used 18 rfl) (mX4_usedOf l _ _ _ _ e7) wcd_X4_usedOf wml_X4_210 wim_X4_usedOf wse_X4_usedOf win_X4_usedOf hd_X4_usedOf ⟨Nat.le_of_ble_eq_true rfl, Nat.le_of_ble_eq_true rfl⟩ (Nat.le_of_ble_eq_true rfl) rfl rfl rfl ?_
      refine V_istore_n (pc := 35) (ls2 := [.ref 0, .int x1, .int x2, .int u7, .null, .null]) X (th_da dtX4_used 19 rfl) (Nat.le_of_ble_eq_true rfl) rfl rfl ?_
      refine V_iconst (pc := 36) (v := 0) X (th_da dtX4_used 20 rfl) (by decide) ?_
      refine V_istore (pc := 37) (ls2 := [.ref 0, .int x1, .int x2, .int u7, .int 0, .null]) X (th_da dtX4_used 21 rfl) (Nat.le_of_ble_eq_true rfl) rfl rfl ?_
      refine V_iconst (pc := 39) (v := 0) X (th_da dtX4_used 22 rfl) (by decide) ?_
      refine V_istore (pc := 40) (ls2 := [.ref 0, .int x1, .int x2, .int u7, .int 0, .int 0]) X (th_da dtX4_used 23 rfl) (Nat.le_of_ble_eq_true rfl) rfl rfl ?_
      exact tX4_used_c42 X _ _ _ _ _ _ _ hf
end
def fX4_water (x1 : Int32) (h : th_H) : Option (Int32 × th_H) :=
  th_st (th_up h 0 0 0) fun h1 =>
  th_bd (fX4_layFair h1) fun _u2 h2 =>
  if x1 = 0 then
    some ((h2.1 0 13), h2)
  else
  if x1 = 1 then
    th_bd (fX4_leastLevel h2) fun u5 h5 =>
    some (u5, h5)
  else
  if x1 = 2 then
    if ((h2.1 0 13) = 0 : Prop) then
      some ((-1), h2)
    else
      th_rd h2 10 20 ((h2.1 0 13) - 1) fun v8 =>
      some (v8, h2)
  else
  if x1 = 3 then
    th_bd (fX4_allRates h2) fun u10 h10 =>
    some (u10, h10)
  else
  some ((-1), h2)
def tbX4_water : List (Nat × Instr × Nat) := [(0, .aload_n 0, 1), (1, .iconst 0, 1), (2, .putfield 55, 3), (5, .aload_n 0, 1), (6, .invokevirtual 207, 3), (9, .iload_n 1, 1), (10, .tableswitch 68 0 3 #[30, 35, 40, 63], 30), (40, .aload_n 0, 1), (41, .getfield 187, 3), (44, .ireturn, 1), (45, .aload_n 0, 1), (46, .invokevirtual 213, 3), (49, .ireturn, 1), (50, .aload_n 0, 1), (51, .getfield 187, 3), (54, .ifCond .ne 7, 3), (57, .iconst (-1), 1), (58, .goto 14, 3), (61, .aload_n 0, 1), (62, .getfield 40, 3), (65, .aload_n 0, 1), (66, .getfield 187, 3), (69, .iconst 1, 1), (70, .isub, 1), (71, .iaload, 1), (72, .ireturn, 1), (73, .aload_n 0, 1), (74, .invokevirtual 216, 3), (77, .ireturn, 1), (78, .iconst (-1), 1), (79, .ireturn, 1)]
theorem dtX4_water : th_dec cX4_water tbX4_water = true := by decide +kernel
section
variable {p0 : Program} {l : Launch} {e : Env} {s : State} {m : MethodId} {args : Array Value} {below : List Frame} {meth : Method} {c : Code} {D : va_G} {cI cZ : ClassId} {ad : Nat → Nat} {rr : Int32} {hh : th_H}
set_option maxHeartbeats 4000000 in
set_option maxRecDepth 100000 in
theorem mX4_water (l : Launch) (x1 : Int32) (h : th_H) (rr : Int32) (hh : th_H) (hf : fX4_water x1 h = some (rr, hh)) : th_MI l LM yX4_water cX4_water 2 (some .int) 5 115 [.ref 0, .int x1] h (some (.int rr)) hh := by
  refine th_MI_of (ls := [.ref 0, .int x1]) RX4 rfl rfl rfl (Nat.le_of_ble_eq_true rfl) ?_
  intro p0 e s m args below meth c D cI cZ ad X
  unfold fX4_water at hf
  refine V_aload_n (pc := 0) X (th_da dtX4_water 0 rfl) rfl ?_
  refine V_iconst (pc := 1) (v := 0) X (th_da dtX4_water 1 rfl) (by decide) ?_
  obtain ⟨h1, e1, hf⟩ := th_st_some hf
  refine V_putI (pc := 2) (j := 0) (ty := .int) X (th_da dtX4_water 2 rfl) wfl_X4_55 iX4 rfl rfl (Nat.le_of_ble_eq_true rfl) rfl tyX4 tyX4_ok nmX4 rfl (tyX4_ok 0 (Nat.le_of_ble_eq_true rfl)) rfl rfl e1 ?_
  refine V_aload_n (pc := 5) X (th_da dtX4_water 3 rfl) rfl ?_
  obtain ⟨u2, h2, e2, hf⟩ := th_bd_some hf
  refine V_callVv (pc := 6) (q := 0) (As := []) X (th_da dtX4_water 4 rfl) (mX4_layFair l _ _ _ e2) wcd_X4_layFair wml_X4_207 wim_X4_layFair wse_X4_layFair win_X4_layFair hd_X4_layFair ⟨Nat.le_of_ble_eq_true rfl, Nat.le_of_ble_eq_true rfl⟩ (Nat.le_of_ble_eq_true rfl) rfl rfl rfl ?_
  refine V_iload_n (pc := 9) X (th_da dtX4_water 5 rfl) rfl ?_
  by_cases c3 : x1 = 0
  · rw [if_pos c3] at hf
    refine V_tabIn (pc := 10) (tgt := 40) X (th_da dtX4_water 6 rfl) c3 (by decide) (by decide) rfl (by decide) ?_
    refine V_aload_n (pc := 40) X (th_da dtX4_water 7 rfl) rfl ?_
    refine V_getI (pc := 41) (j := 13) X (th_da dtX4_water 8 rfl) wfl_X4_187 iX4 rfl rfl (Nat.le_of_ble_eq_true rfl) rfl ?_
    exact V_iretF (pc := 44) X (th_da dtX4_water 9 rfl) hf
  · rw [if_neg c3] at hf
    by_cases c4 : x1 = 1
    · rw [if_pos c4] at hf
      refine V_tabIn (pc := 10) (tgt := 45) X (th_da dtX4_water 6 rfl) c4 (by decide) (by decide) rfl (by decide) ?_
      refine V_aload_n (pc := 45) X (th_da dtX4_water 10 rfl) rfl ?_
      obtain ⟨u5, h5, e5, hf⟩ := th_bd_some hf
      refine V_callVi (pc := 46) (q := 0) (As := []) X (th_da dtX4_water 11 rfl) (mX4_leastLevel l _ _ _ e5) wcd_X4_leastLevel wml_X4_213 wim_X4_leastLevel wse_X4_leastLevel win_X4_leastLevel hd_X4_leastLevel ⟨Nat.le_of_ble_eq_true rfl, Nat.le_of_ble_eq_true rfl⟩ (Nat.le_of_ble_eq_true rfl) rfl rfl rfl ?_
      exact V_iretF (pc := 49) X (th_da dtX4_water 12 rfl) hf
    · rw [if_neg c4] at hf
      by_cases c6 : x1 = 2
      · rw [if_pos c6] at hf
        refine V_tabIn (pc := 10) (tgt := 50) X (th_da dtX4_water 6 rfl) c6 (by decide) (by decide) rfl (by decide) ?_
        refine V_aload_n (pc := 50) X (th_da dtX4_water 13 rfl) rfl ?_
        refine V_getI (pc := 51) (j := 13) X (th_da dtX4_water 14 rfl) wfl_X4_187 iX4 rfl rfl (Nat.le_of_ble_eq_true rfl) rfl ?_
        refine V_if_ne (pc := 54) (tgt := 61) X (th_da dtX4_water 15 rfl) (by decide) (fun c7 => ?_) (fun c7 => ?_)
        · rw [if_pos c7] at hf
          refine V_iconst (pc := 57) (v := (-1)) X (th_da dtX4_water 16 rfl) (by decide) ?_
          refine V_goto (pc := 58) (tgt := 72) X (th_da dtX4_water 17 rfl) (by decide) ?_
          exact V_iretF (pc := 72) X (th_da dtX4_water 25 rfl) hf
        · rw [if_neg c7] at hf
          refine V_aload_n (pc := 61) X (th_da dtX4_water 18 rfl) rfl ?_
          refine V_getR (pc := 62) (j := 10) (t := 10) X (th_da dtX4_water 19 rfl) wfl_X4_40 iX4 rfl rfl (Nat.le_of_ble_eq_true rfl) rfl ?_
          refine V_aload_n (pc := 65) X (th_da dtX4_water 20 rfl) rfl ?_
          refine V_getI (pc := 66) (j := 13) X (th_da dtX4_water 21 rfl) wfl_X4_187 iX4 rfl rfl (Nat.le_of_ble_eq_true rfl) rfl ?_
          refine V_iconst (pc := 69) (v := 1) X (th_da dtX4_water 22 rfl) (by decide) ?_
          refine V_isub (pc := 70) X (th_da dtX4_water 23 rfl) ?_
          obtain ⟨v8, e8, g8, hf⟩ := th_rd_some hf
          refine V_iald (pc := 71) X (th_da dtX4_water 24 rfl) rfl g8 e8 ?_
          exact V_iretF (pc := 72) X (th_da dtX4_water 25 rfl) hf
      · rw [if_neg c6] at hf
        by_cases c9 : x1 = 3
        · rw [if_pos c9] at hf
          refine V_tabIn (pc := 10) (tgt := 73) X (th_da dtX4_water 6 rfl) c9 (by decide) (by decide) rfl (by decide) ?_
          refine V_aload_n (pc := 73) X (th_da dtX4_water 26 rfl) rfl ?_
          obtain ⟨u10, h10, e10, hf⟩ := th_bd_some hf
          refine V_callVi (pc := 74) (q := 0) (As := []) X (th_da dtX4_water 27 rfl) (mX4_allRates l _ _ _ e10) wcd_X4_allRates wml_X4_216 wim_X4_allRates wse_X4_allRates win_X4_allRates hd_X4_allRates ⟨Nat.le_of_ble_eq_true rfl, Nat.le_of_ble_eq_true rfl⟩ (Nat.le_of_ble_eq_true rfl) rfl rfl rfl ?_
          exact V_iretF (pc := 77) X (th_da dtX4_water 28 rfl) hf
        · rw [if_neg c9] at hf
          have n3 := lv_neT c3 (show (0 : Int32).toInt = 0 from rfl)
          have n4 := lv_neT c4 (show (1 : Int32).toInt = 1 from rfl)
          have n6 := lv_neT c6 (show (2 : Int32).toInt = 2 from rfl)
          have n9 := lv_neT c9 (show (3 : Int32).toInt = 3 from rfl)
          refine V_tabOut (pc := 10) (tgt := 78) X (th_da dtX4_water 6 rfl) (by omega) (by decide) ?_
          refine V_iconst (pc := 78) (v := (-1)) X (th_da dtX4_water 29 rfl) (by decide) ?_
          exact V_iretF (pc := 79) X (th_da dtX4_water 30 rfl) hf
end
def fX4_step_c44 : Nat → Int32 → Int32 → Int32 → Int32 → th_H → Option (Int32 × th_H)
  | 0, _, _, _, _, _ => none
  | n + 1, y1, y2, y3, y4, h =>
    if (y4 < 20 : Prop) then
      th_rd h 11 20 y1 fun v2 =>
      if (((v2 >>> (y4 &&& 31)) &&& 1) = 1 : Prop) then
        th_bd (fX4_fairRate y4 h) fun u4 h4 =>
        fX4_step_c44 n y1 y2 (y3 + u4) (y4 + 1) h4
      else
        fX4_step_c44 n y1 y2 (y3 + 0) (y4 + 1) h
    else
      if (y2 = 0 : Prop) then
        th_rd h 10 20 y1 fun v6 =>
        some (v6, h)
      else
        if (y2 = 1 : Prop) then
          th_rd h 11 20 y1 fun v8 =>
          some (v8, h)
        else
          if (y2 = 2 : Prop) then
            th_rd h 12 20 y1 fun v10 =>
            some (v10, h)
          else
            some (y3, h)
def fX4_step (x1 : Int32) (x2 : Int32) (h : th_H) : Option (Int32 × th_H) :=
  th_st (th_up h 0 0 0) fun h1 =>
  th_bd (fX4_layFair h1) fun _u2 h2 =>
  th_bd (fX4_in (Int32.toInt64 x1) 0 ((Int32.toInt64 (h2.1 0 13)) - 1) h2) fun u3 h3 =>
  if (u3 = 0 : Prop) then
    some ((-1), h3)
  else
    th_bd (fX4_in (Int32.toInt64 x2) 0 3 h3) fun u5 h5 =>
    if (u5 = 0 : Prop) then
      some ((-1), h5)
    else
      fX4_step_c44 1000 x1 x2 0 0 h5
def tbX4_step : List (Nat × Instr × Nat) := [(0, .aload_n 0, 1), (1, .iconst 0, 1), (2, .putfield 55, 3), (5, .aload_n 0, 1), (6, .invokevirtual 207, 3), (9, .iload_n 1, 1), (10, .i2l, 1), (11, .lconst 0, 1), (12, .aload_n 0, 1), (13, .getfield 187, 3), (16, .i2l, 1), (17, .lconst 1, 1), (18, .lsub, 1), (19, .invokestatic 63, 3), (22, .ifCond .eq 15, 3), (25, .iload_n 2, 1), (26, .i2l, 1), (27, .lconst 0, 1), (28, .ldc2_w 219, 3), (31, .invokestatic 63, 3), (34, .ifCond .ne 5, 3), (37, .iconst (-1), 1), (38, .ireturn, 1), (39, .iconst 0, 1), (40, .istore_n 3, 1), (41, .iconst 0, 1), (42, .istore 4, 2), (44, .iload 4, 2), (46, .bipush 20, 2), (48, .if_icmp .ge 37, 3), (51, .iload_n 3, 1), (52, .aload_n 0, 1), (53, .getfield 43, 3), (56, .iload_n 1, 1), (57, .iaload, 1), (58, .iload 4, 2), (60, .ishr, 1), (61, .iconst 1, 1), (62, .iand, 1), (63, .iconst 1, 1), (64, .if_icmp .ne 12, 3), (67, .aload_n 0, 1), (68, .iload 4, 2), (70, .invokevirtual 199, 3), (73, .goto 4, 3), (76, .iconst 0, 1), (77, .iadd, 1), (78, .istore_n 3, 1), (79, .iinc 4 1, 3), (82, .goto (-38), 3), (85, .iload_n 2, 1), (86, .ifCond .ne 12, 3), (89, .aload_n 0, 1), (90, .getfield 40, 3), (93, .iload_n 1, 1), (94, .iaload, 1), (95, .goto 32, 3), (98, .iload_n 2, 1), (99, .iconst 1, 1), (100, .if_icmp .ne 12, 3), (103, .aload_n 0, 1), (104, .getfield 43, 3), (107, .iload_n 1, 1), (108, .iaload, 1), (109, .goto 18, 3), (112, .iload_n 2, 1), (113, .iconst 2, 1), (114, .if_icmp .ne 12, 3), (117, .aload_n 0, 1), (118, .getfield 46, 3), (121, .iload_n 1, 1), (122, .iaload, 1), (123, .goto 4, 3), (126, .iload_n 3, 1), (127, .ireturn, 1)]
theorem dtX4_step : th_dec cX4_step tbX4_step = true := by decide +kernel
section
variable {p0 : Program} {l : Launch} {e : Env} {s : State} {m : MethodId} {args : Array Value} {below : List Frame} {meth : Method} {c : Code} {D : va_G} {cI cZ : ClassId} {ad : Nat → Nat} {rr : Int32} {hh : th_H}
set_option maxHeartbeats 4000000 in
set_option maxRecDepth 100000 in
theorem tX4_step_c44 (X : th_X p0 s m args meth c D cI cZ ad LM 5 RX4 cX4_step (some .int)) : ∀ (n : Nat) (y1 : Int32) (y2 : Int32) (y3 : Int32) (y4 : Int32) (h : th_H), fX4_step_c44 n y1 y2 y3 y4 h = some (rr, hh) → th_V p0 l e { frames := 5, cells := 0, slots := 0, locals := 115 } s m args below meth c D cI cZ ad LM 5 (some (.int rr)) hh 44 [.ref 0, .int y1, .int y2, .int y3, .int y4] [] h := by
  intro n
  induction n with
  | zero => intro y1 y2 y3 y4 h hf; cases hf
  | succ n ih =>
    intro y1 y2 y3 y4 h hf
    rw [fX4_step_c44] at hf
    refine V_iload (pc := 44) X (th_da dtX4_step 27 rfl) rfl ?_
    refine V_bipush (pc := 46) (v := 20) X (th_da dtX4_step 28 rfl) (by decide) ?_
    refine V_icmp_ge (pc := 48) (tgt := 85) X (th_da dtX4_step 29 rfl) (by decide) (fun c1 => ?_) (fun c1 => ?_)
    · rw [if_pos c1] at hf
      refine V_iload_n (pc := 51) X (th_da dtX4_step 30 rfl) rfl ?_
      refine V_aload_n (pc := 52) X (th_da dtX4_step 31 rfl) rfl ?_
      refine V_getR (pc := 53) (j := 11) (t := 11) X (th_da dtX4_step 32 rfl) wfl_X4_43 iX4 rfl rfl (Nat.le_of_ble_eq_true rfl) rfl ?_
      refine V_iload_n (pc := 56) X (th_da dtX4_step 33 rfl) rfl ?_
      obtain ⟨v2, e2, g2, hf⟩ := th_rd_some hf
      refine V_iald (pc := 57) X (th_da dtX4_step 34 rfl) rfl g2 e2 ?_
      refine V_iload (pc := 58) X (th_da dtX4_step 35 rfl) rfl ?_
      refine V_ishr (pc := 60) X (th_da dtX4_step 36 rfl) ?_
      refine V_iconst (pc := 61) (v := 1) X (th_da dtX4_step 37 rfl) (by decide) ?_
      refine V_iand (pc := 62) X (th_da dtX4_step 38 rfl) ?_
      refine V_iconst (pc := 63) (v := 1) X (th_da dtX4_step 39 rfl) (by decide) ?_
      refine V_icmp_ne (pc := 64) (tgt := 76) X (th_da dtX4_step 40 rfl) (by decide) (fun c3 => ?_) (fun c3 => ?_)
      · rw [if_pos c3] at hf
        refine V_aload_n (pc := 67) X (th_da dtX4_step 41 rfl) rfl ?_
        refine V_iload (pc := 68) X (th_da dtX4_step 42 rfl) rfl ?_
        obtain ⟨u4, h4, e4, hf⟩ := th_bd_some hf
        refine V_callVi (pc := 70) (q := 0) (As := [.int y4]) X (th_da dtX4_step 43 rfl) (mX4_fairRate l _ _ _ _ e4) wcd_X4_fairRate wml_X4_199 wim_X4_fairRate wse_X4_fairRate win_X4_fairRate hd_X4_fairRate ⟨Nat.le_of_ble_eq_true rfl, Nat.le_of_ble_eq_true rfl⟩ (Nat.le_of_ble_eq_true rfl) rfl rfl rfl ?_
        refine V_goto (pc := 73) (tgt := 77) X (th_da dtX4_step 44 rfl) (by decide) ?_
        refine V_iadd (pc := 77) X (th_da dtX4_step 46 rfl) ?_
        refine V_istore_n (pc := 78) (ls2 := [.ref 0, .int y1, .int y2, .int (y3 + u4), .int y4]) X (th_da dtX4_step 47 rfl) (Nat.le_of_ble_eq_true rfl) rfl rfl ?_
        refine V_iinc (pc := 79) (v := y4 + 1) (ls2 := [.ref 0, .int y1, .int y2, .int (y3 + u4), .int (y4 + 1)]) X (th_da dtX4_step 48 rfl) rfl rfl (Nat.le_of_ble_eq_true rfl) rfl rfl ?_
        refine V_goto (pc := 82) (tgt := 44) X (th_da dtX4_step 49 rfl) (by decide) ?_
        exact ih _ _ _ _ _ hf
      · rw [if_neg c3] at hf
        refine V_iconst (pc := 76) (v := 0) X (th_da dtX4_step 45 rfl) (by decide) ?_
        refine V_iadd (pc := 77) X (th_da dtX4_step 46 rfl) ?_
        refine V_istore_n (pc := 78) (ls2 := [.ref 0, .int y1, .int y2, .int (y3 + 0), .int y4]) X (th_da dtX4_step 47 rfl) (Nat.le_of_ble_eq_true rfl) rfl rfl ?_
        refine V_iinc (pc := 79) (v := y4 + 1) (ls2 := [.ref 0, .int y1, .int y2, .int (y3 + 0), .int (y4 + 1)]) X (th_da dtX4_step 48 rfl) rfl rfl (Nat.le_of_ble_eq_true rfl) rfl rfl ?_
        refine V_goto (pc := 82) (tgt := 44) X (th_da dtX4_step 49 rfl) (by decide) ?_
        exact ih _ _ _ _ _ hf
    · rw [if_neg c1] at hf
      refine V_iload_n (pc := 85) X (th_da dtX4_step 50 rfl) rfl ?_
      refine V_if_ne (pc := 86) (tgt := 98) X (th_da dtX4_step 51 rfl) (by decide) (fun c5 => ?_) (fun c5 => ?_)
      · rw [if_pos c5] at hf
        refine V_aload_n (pc := 89) X (th_da dtX4_step 52 rfl) rfl ?_
        refine V_getR (pc := 90) (j := 10) (t := 10) X (th_da dtX4_step 53 rfl) wfl_X4_40 iX4 rfl rfl (Nat.le_of_ble_eq_true rfl) rfl ?_
        refine V_iload_n (pc := 93) X (th_da dtX4_step 54 rfl) rfl ?_
        obtain ⟨v6, e6, g6, hf⟩ := th_rd_some hf
        refine V_iald (pc := 94) X (th_da dtX4_step 55 rfl) rfl g6 e6 ?_
        refine V_goto (pc := 95) (tgt := 127) X (th_da dtX4_step 56 rfl) (by decide) ?_
        exact V_iretF (pc := 127) X (th_da dtX4_step 74 rfl) hf
      · rw [if_neg c5] at hf
        refine V_iload_n (pc := 98) X (th_da dtX4_step 57 rfl) rfl ?_
        refine V_iconst (pc := 99) (v := 1) X (th_da dtX4_step 58 rfl) (by decide) ?_
        refine V_icmp_ne (pc := 100) (tgt := 112) X (th_da dtX4_step 59 rfl) (by decide) (fun c7 => ?_) (fun c7 => ?_)
        · rw [if_pos c7] at hf
          refine V_aload_n (pc := 103) X (th_da dtX4_step 60 rfl) rfl ?_
          refine V_getR (pc := 104) (j := 11) (t := 11) X (th_da dtX4_step 61 rfl) wfl_X4_43 iX4 rfl rfl (Nat.le_of_ble_eq_true rfl) rfl ?_
          refine V_iload_n (pc := 107) X (th_da dtX4_step 62 rfl) rfl ?_
          obtain ⟨v8, e8, g8, hf⟩ := th_rd_some hf
          refine V_iald (pc := 108) X (th_da dtX4_step 63 rfl) rfl g8 e8 ?_
          refine V_goto (pc := 109) (tgt := 127) X (th_da dtX4_step 64 rfl) (by decide) ?_
          exact V_iretF (pc := 127) X (th_da dtX4_step 74 rfl) hf
        · rw [if_neg c7] at hf
          refine V_iload_n (pc := 112) X (th_da dtX4_step 65 rfl) rfl ?_
          refine V_iconst (pc := 113) (v := 2) X (th_da dtX4_step 66 rfl) (by decide) ?_
          refine V_icmp_ne (pc := 114) (tgt := 126) X (th_da dtX4_step 67 rfl) (by decide) (fun c9 => ?_) (fun c9 => ?_)
          · rw [if_pos c9] at hf
            refine V_aload_n (pc := 117) X (th_da dtX4_step 68 rfl) rfl ?_
            refine V_getR (pc := 118) (j := 12) (t := 12) X (th_da dtX4_step 69 rfl) wfl_X4_46 iX4 rfl rfl (Nat.le_of_ble_eq_true rfl) rfl ?_
            refine V_iload_n (pc := 121) X (th_da dtX4_step 70 rfl) rfl ?_
            obtain ⟨v10, e10, g10, hf⟩ := th_rd_some hf
            refine V_iald (pc := 122) X (th_da dtX4_step 71 rfl) rfl g10 e10 ?_
            refine V_goto (pc := 123) (tgt := 127) X (th_da dtX4_step 72 rfl) (by decide) ?_
            exact V_iretF (pc := 127) X (th_da dtX4_step 74 rfl) hf
          · rw [if_neg c9] at hf
            refine V_iload_n (pc := 126) X (th_da dtX4_step 73 rfl) rfl ?_
            exact V_iretF (pc := 127) X (th_da dtX4_step 74 rfl) hf
set_option maxHeartbeats 4000000 in
set_option maxRecDepth 100000 in
theorem mX4_step (l : Launch) (x1 : Int32) (x2 : Int32) (h : th_H) (rr : Int32) (hh : th_H) (hf : fX4_step x1 x2 h = some (rr, hh)) : th_MI l LM yX4_step cX4_step 5 (some .int) 5 115 [.ref 0, .int x1, .int x2] h (some (.int rr)) hh := by
  refine th_MI_of (ls := [.ref 0, .int x1, .int x2, .null, .null]) RX4 rfl rfl rfl (Nat.le_of_ble_eq_true rfl) ?_
  intro p0 e s m args below meth c D cI cZ ad X
  unfold fX4_step at hf
  refine V_aload_n (pc := 0) X (th_da dtX4_step 0 rfl) rfl ?_
  refine V_iconst (pc := 1) (v := 0) X (th_da dtX4_step 1 rfl) (by decide) ?_
  obtain ⟨h1, e1, hf⟩ := th_st_some hf
  refine V_putI (pc := 2) (j := 0) (ty := .int) X (th_da dtX4_step 2 rfl) wfl_X4_55 iX4 rfl rfl (Nat.le_of_ble_eq_true rfl) rfl tyX4 tyX4_ok nmX4 rfl (tyX4_ok 0 (Nat.le_of_ble_eq_true rfl)) rfl rfl e1 ?_
  refine V_aload_n (pc := 5) X (th_da dtX4_step 3 rfl) rfl ?_
  obtain ⟨u2, h2, e2, hf⟩ := th_bd_some hf
  refine V_callVv (pc := 6) (q := 0) (As := []) X (th_da dtX4_step 4 rfl) (mX4_layFair l _ _ _ e2) wcd_X4_layFair wml_X4_207 wim_X4_layFair wse_X4_layFair win_X4_layFair hd_X4_layFair ⟨Nat.le_of_ble_eq_true rfl, Nat.le_of_ble_eq_true rfl⟩ (Nat.le_of_ble_eq_true rfl) rfl rfl rfl ?_
  refine V_iload_n (pc := 9) X (th_da dtX4_step 5 rfl) rfl ?_
  refine V_i2l (pc := 10) X (th_da dtX4_step 6 rfl) ?_
  refine V_lconst (pc := 11) (v := 0) X (th_da dtX4_step 7 rfl) (by decide) ?_
  refine V_aload_n (pc := 12) X (th_da dtX4_step 8 rfl) rfl ?_
  refine V_getI (pc := 13) (j := 13) X (th_da dtX4_step 9 rfl) wfl_X4_187 iX4 rfl rfl (Nat.le_of_ble_eq_true rfl) rfl ?_
  refine V_i2l (pc := 16) X (th_da dtX4_step 10 rfl) ?_
  refine V_lconst (pc := 17) (v := 1) X (th_da dtX4_step 11 rfl) (by decide) ?_
  refine V_lsub (pc := 18) X (th_da dtX4_step 12 rfl) ?_
  obtain ⟨u3, h3, e3, hf⟩ := th_bd_some hf
  refine V_callSi (pc := 19) (As := [.long (Int32.toInt64 x1), .long 0, .long ((Int32.toInt64 (h2.1 0 13)) - 1)]) X (th_da dtX4_step 13 rfl) (mX4_in l _ _ _ _ _ _ e3) wcd_X4_in wml_X4_63 wst_X4_in win_X4_in hd_X4_in ⟨Nat.le_of_ble_eq_true rfl, Nat.le_of_ble_eq_true rfl⟩ (Nat.le_of_ble_eq_true rfl) rfl ?_
  refine V_if_eq (pc := 22) (tgt := 37) X (th_da dtX4_step 14 rfl) (by decide) (fun c4 => ?_) (fun c4 => ?_)
  · rw [if_pos c4] at hf
    refine V_iconst (pc := 37) (v := (-1)) X (th_da dtX4_step 21 rfl) (by decide) ?_
    exact V_iretF (pc := 38) X (th_da dtX4_step 22 rfl) hf
  · rw [if_neg c4] at hf
    refine V_iload_n (pc := 25) X (th_da dtX4_step 15 rfl) rfl ?_
    refine V_i2l (pc := 26) X (th_da dtX4_step 16 rfl) ?_
    refine V_lconst (pc := 27) (v := 0) X (th_da dtX4_step 17 rfl) (by decide) ?_
    refine V_ldc2 (pc := 28) (v := 3) X (th_da dtX4_step 18 rfl) wcl_X4_219 ?_
    obtain ⟨u5, h5, e5, hf⟩ := th_bd_some hf
    refine V_callSi (pc := 31) (As := [.long (Int32.toInt64 x2), .long 0, .long 3]) X (th_da dtX4_step 19 rfl) (mX4_in l _ _ _ _ _ _ e5) wcd_X4_in wml_X4_63 wst_X4_in win_X4_in hd_X4_in ⟨Nat.le_of_ble_eq_true rfl, Nat.le_of_ble_eq_true rfl⟩ (Nat.le_of_ble_eq_true rfl) rfl ?_
    refine V_if_ne (pc := 34) (tgt := 39) X (th_da dtX4_step 20 rfl) (by decide) (fun c6 => ?_) (fun c6 => ?_)
    · rw [if_pos c6] at hf
      refine V_iconst (pc := 37) (v := (-1)) X (th_da dtX4_step 21 rfl) (by decide) ?_
      exact V_iretF (pc := 38) X (th_da dtX4_step 22 rfl) hf
    · rw [if_neg c6] at hf
      refine V_iconst (pc := 39) (v := 0) X (th_da dtX4_step 23 rfl) (by decide) ?_
      refine V_istore_n (pc := 40) (ls2 := [.ref 0, .int x1, .int x2, .int 0, .null]) X (th_da dtX4_step 24 rfl) (Nat.le_of_ble_eq_true rfl) rfl rfl ?_
      refine V_iconst (pc := 41) (v := 0) X (th_da dtX4_step 25 rfl) (by decide) ?_
      refine V_istore (pc := 42) (ls2 := [.ref 0, .int x1, .int x2, .int 0, .int 0]) X (th_da dtX4_step 26 rfl) (Nat.le_of_ble_eq_true rfl) rfl rfl ?_
      exact tX4_step_c44 X _ _ _ _ _ _ hf
end
def fX4_ranked_c98 (k11 : Int32 → Int32 → th_H → Option (Int32 × th_H)) (y1 : Int32) (y2 : Int32) (y3 : Int32) (h : th_H) : Option (Int32 × th_H) :=
  th_bd (fX4_isFlow y2 h) fun u1 h1 =>
  if (u1 = 0 : Prop) then
    k11 y1 (y2 + 1) h1
  else
    if (y3 = y1 : Prop) then
      some (y2, h1)
    else
      k11 y1 (y2 + 1) h1
def fX4_ranked_c22 (k11 : Int32 → Int32 → th_H → Option (Int32 × th_H)) : Nat → Int32 → Int32 → Int32 → Int32 → th_H → Option (Int32 × th_H)
  | 0, _, _, _, _, _ => none
  | n + 1, y1, y2, y3, y4, h =>
    if (y4 < 20 : Prop) then
      th_bd (fX4_isFlow y2 h) fun u2 h2 =>
      if (u2 = 0 : Prop) then
        fX4_ranked_c98 k11 y1 y2 y3 h2
      else
        th_bd (fX4_isFlow y4 h2) fun u4 h4 =>
        if (u4 = 0 : Prop) then
          fX4_ranked_c22 k11 n y1 y2 (y3 + 0) (y4 + 1) h4
        else
          th_rd h4 7 20 y4 fun v6 =>
          th_rd h4 7 20 y2 fun v7 =>
          if (v6 < v7 : Prop) then
            fX4_ranked_c22 k11 n y1 y2 (y3 + 1) (y4 + 1) h4
          else
            th_rd h4 7 20 y4 fun v9 =>
            th_rd h4 7 20 y2 fun v10 =>
            if (v9 = v10 : Prop) then
              if (y4 < y2 : Prop) then
                fX4_ranked_c22 k11 n y1 y2 (y3 + 1) (y4 + 1) h4
              else
                fX4_ranked_c22 k11 n y1 y2 (y3 + 0) (y4 + 1) h4
            else
              fX4_ranked_c22 k11 n y1 y2 (y3 + 0) (y4 + 1) h4
    else
      fX4_ranked_c98 k11 y1 y2 y3 h
def fX4_ranked_c11 : Nat → Int32 → Int32 → th_H → Option (Int32 × th_H)
  | 0, _, _, _ => none
  | n + 1, y1, y2, h =>
    if (y2 < 20 : Prop) then
      fX4_ranked_c22 (fX4_ranked_c11 n) 1000 y1 y2 0 0 h
    else
      some ((-1), h)
def fX4_ranked (x1 : Int32) (h : th_H) : Option (Int32 × th_H) :=
  th_st (th_up h 0 0 0) fun h1 =>
  th_bd (fX4_layFair h1) fun _u2 h2 =>
  fX4_ranked_c11 1000 x1 0 h2
def tbX4_ranked : List (Nat × Instr × Nat) := [(0, .aload_n 0, 1), (1, .iconst 0, 1), (2, .putfield 55, 3), (5, .aload_n 0, 1), (6, .invokevirtual 207, 3), (9, .iconst 0, 1), (10, .istore_n 2, 1), (11, .iload_n 2, 1), (12, .bipush 20, 2), (14, .if_icmp .ge 105, 3), (17, .iconst 0, 1), (18, .istore_n 3, 1), (19, .iconst 0, 1), (20, .istore 4, 2), (22, .iload 4, 2), (24, .bipush 20, 2), (26, .if_icmp .ge 72, 3), (29, .aload_n 0, 1), (30, .iload_n 2, 1), (31, .invokevirtual 125, 3), (34, .ifCond .eq 64, 3), (37, .iload_n 3, 1), (38, .aload_n 0, 1), (39, .iload 4, 2), (41, .invokevirtual 125, 3), (44, .ifCond .eq 45, 3), (47, .aload_n 0, 1), (48, .getfield 31, 3), (51, .iload 4, 2), (53, .iaload, 1), (54, .aload_n 0, 1), (55, .getfield 31, 3), (58, .iload_n 2, 1), (59, .iaload, 1), (60, .if_icmp .lt 25, 3), (63, .aload_n 0, 1), (64, .getfield 31, 3), (67, .iload 4, 2), (69, .iaload, 1), (70, .aload_n 0, 1), (71, .getfield 31, 3), (74, .iload_n 2, 1), (75, .iaload, 1), (76, .if_icmp .ne 13, 3), (79, .iload 4, 2), (81, .iload_n 2, 1), (82, .if_icmp .ge 7, 3), (85, .iconst 1, 1), (86, .goto 4, 3), (89, .iconst 0, 1), (90, .iadd, 1), (91, .istore_n 3, 1), (92, .iinc 4 1, 3), (95, .goto (-73), 3), (98, .aload_n 0, 1), (99, .iload_n 2, 1), (100, .invokevirtual 125, 3), (103, .ifCond .eq 10, 3), (106, .iload_n 3, 1), (107, .iload_n 1, 1), (108, .if_icmp .ne 5, 3), (111, .iload_n 2, 1), (112, .ireturn, 1), (113, .iinc 2 1, 3), (116, .goto (-105), 3), (119, .iconst (-1), 1), (120, .ireturn, 1)]
theorem dtX4_ranked : th_dec cX4_ranked tbX4_ranked = true := by decide +kernel
section
variable {p0 : Program} {l : Launch} {e : Env} {s : State} {m : MethodId} {args : Array Value} {below : List Frame} {meth : Method} {c : Code} {D : va_G} {cI cZ : ClassId} {ad : Nat → Nat} {rr : Int32} {hh : th_H}
set_option maxHeartbeats 4000000 in
set_option maxRecDepth 100000 in
theorem tX4_ranked_c98 (X : th_X p0 s m args meth c D cI cZ ad LM 5 RX4 cX4_ranked (some .int)) (k11 : Int32 → Int32 → th_H → Option (Int32 × th_H)) (hk11 : ∀ (y1 : Int32) (y2 : Int32) (h : th_H), k11 y1 y2 h = some (rr, hh) → th_V p0 l e { frames := 5, cells := 0, slots := 0, locals := 115 } s m args below meth c D cI cZ ad LM 5 (some (.int rr)) hh 11 [.ref 0, .int y1, .int y2, .null, .null] [] h) (y1 : Int32) (y2 : Int32) (y3 : Int32) (h : th_H) (hf : fX4_ranked_c98 k11 y1 y2 y3 h = some (rr, hh)) : th_V p0 l e { frames := 5, cells := 0, slots := 0, locals := 115 } s m args below meth c D cI cZ ad LM 5 (some (.int rr)) hh 98 [.ref 0, .int y1, .int y2, .int y3, .null] [] h := by
  unfold fX4_ranked_c98 at hf
  refine V_aload_n (pc := 98) X (th_da dtX4_ranked 54 rfl) rfl ?_
  refine V_iload_n (pc := 99) X (th_da dtX4_ranked 55 rfl) rfl ?_
  obtain ⟨u1, h1, e1, hf⟩ := th_bd_some hf
  refine V_callVi (pc := 100) (q := 0) (As := [.int y2]) X (th_da dtX4_ranked 56 rfl) (mX4_isFlow l _ _ _ _ e1) wcd_X4_isFlow wml_X4_125 wim_X4_isFlow wse_X4_isFlow win_X4_isFlow hd_X4_isFlow ⟨Nat.le_of_ble_eq_true rfl, Nat.le_of_ble_eq_true rfl⟩ (Nat.le_of_ble_eq_true rfl) rfl rfl rfl ?_
  refine V_if_eq (pc := 103) (tgt := 113) X (th_da dtX4_ranked 57 rfl) (by decide) (fun c2 => ?_) (fun c2 => ?_)
  · rw [if_pos c2] at hf
    refine V_iinc (pc := 113) (v := y2 + 1) (ls2 := [.ref 0, .int y1, .int (y2 + 1), .int y3, .null]) X (th_da dtX4_ranked 63 rfl) rfl rfl (Nat.le_of_ble_eq_true rfl) rfl rfl ?_
    refine V_goto (pc := 116) (tgt := 11) X (th_da dtX4_ranked 64 rfl) (by decide) ?_
    refine V_mask [true, true, true, false, false] (ls2 := [.ref 0, .int y1, .int (y2 + 1), .null, .null]) rfl ?_
    exact hk11 _ _ _ hf
  · rw [if_neg c2] at hf
    refine V_iload_n (pc := 106) X (th_da dtX4_ranked 58 rfl) rfl ?_
    refine V_iload_n (pc := 107) X (th_da dtX4_ranked 59 rfl) rfl ?_
    refine V_icmp_ne (pc := 108) (tgt := 113) X (th_da dtX4_ranked 60 rfl) (by decide) (fun c3 => ?_) (fun c3 => ?_)
    · rw [if_pos c3] at hf
      refine V_iload_n (pc := 111) X (th_da dtX4_ranked 61 rfl) rfl ?_
      exact V_iretF (pc := 112) X (th_da dtX4_ranked 62 rfl) hf
    · rw [if_neg c3] at hf
      refine V_iinc (pc := 113) (v := y2 + 1) (ls2 := [.ref 0, .int y1, .int (y2 + 1), .int y3, .null]) X (th_da dtX4_ranked 63 rfl) rfl rfl (Nat.le_of_ble_eq_true rfl) rfl rfl ?_
      refine V_goto (pc := 116) (tgt := 11) X (th_da dtX4_ranked 64 rfl) (by decide) ?_
      refine V_mask [true, true, true, false, false] (ls2 := [.ref 0, .int y1, .int (y2 + 1), .null, .null]) rfl ?_
      exact hk11 _ _ _ hf
set_option maxHeartbeats 4000000 in
set_option maxRecDepth 100000 in
theorem tX4_ranked_c22 (X : th_X p0 s m args meth c D cI cZ ad LM 5 RX4 cX4_ranked (some .int)) (k11 : Int32 → Int32 → th_H → Option (Int32 × th_H)) (hk11 : ∀ (y1 : Int32) (y2 : Int32) (h : th_H), k11 y1 y2 h = some (rr, hh) → th_V p0 l e { frames := 5, cells := 0, slots := 0, locals := 115 } s m args below meth c D cI cZ ad LM 5 (some (.int rr)) hh 11 [.ref 0, .int y1, .int y2, .null, .null] [] h) : ∀ (n : Nat) (y1 : Int32) (y2 : Int32) (y3 : Int32) (y4 : Int32) (h : th_H), fX4_ranked_c22 k11 n y1 y2 y3 y4 h = some (rr, hh) → th_V p0 l e { frames := 5, cells := 0, slots := 0, locals := 115 } s m args below meth c D cI cZ ad LM 5 (some (.int rr)) hh 22 [.ref 0, .int y1, .int y2, .int y3, .int y4] [] h := by
  intro n
  induction n with
  | zero => intro y1 y2 y3 y4 h hf; cases hf
  | succ n ih =>
    intro y1 y2 y3 y4 h hf
    rw [fX4_ranked_c22] at hf
    refine V_iload (pc := 22) X (th_da dtX4_ranked 14 rfl) rfl ?_
    refine V_bipush (pc := 24) (v := 20) X (th_da dtX4_ranked 15 rfl) (by decide) ?_
    refine V_icmp_ge (pc := 26) (tgt := 98) X (th_da dtX4_ranked 16 rfl) (by decide) (fun c1 => ?_) (fun c1 => ?_)
    · rw [if_pos c1] at hf
      refine V_aload_n (pc := 29) X (th_da dtX4_ranked 17 rfl) rfl ?_
      refine V_iload_n (pc := 30) X (th_da dtX4_ranked 18 rfl) rfl ?_
      obtain ⟨u2, h2, e2, hf⟩ := th_bd_some hf
      refine V_callVi (pc := 31) (q := 0) (As := [.int y2]) X (th_da dtX4_ranked 19 rfl) (mX4_isFlow l _ _ _ _ e2) wcd_X4_isFlow wml_X4_125 wim_X4_isFlow wse_X4_isFlow win_X4_isFlow hd_X4_isFlow ⟨Nat.le_of_ble_eq_true rfl, Nat.le_of_ble_eq_true rfl⟩ (Nat.le_of_ble_eq_true rfl) rfl rfl rfl ?_
      refine V_if_eq (pc := 34) (tgt := 98) X (th_da dtX4_ranked 20 rfl) (by decide) (fun c3 => ?_) (fun c3 => ?_)
      · rw [if_pos c3] at hf
        refine V_mask [true, true, true, true, false] (ls2 := [.ref 0, .int y1, .int y2, .int y3, .null]) rfl ?_
        exact tX4_ranked_c98 X _ hk11 _ _ _ _ hf
      · rw [if_neg c3] at hf
        refine V_iload_n (pc := 37) X (th_da dtX4_ranked 21 rfl) rfl ?_
        refine V_aload_n (pc := 38) X (th_da dtX4_ranked 22 rfl) rfl ?_
        refine V_iload (pc := 39) X (th_da dtX4_ranked 23 rfl) rfl ?_
        obtain ⟨u4, h4, e4, hf⟩ := th_bd_some hf
        refine V_callVi (pc := 41) (q := 0) (As := [.int y4]) X (th_da dtX4_ranked 24 rfl) (mX4_isFlow l _ _ _ _ e4) wcd_X4_isFlow wml_X4_125 wim_X4_isFlow wse_X4_isFlow win_X4_isFlow hd_X4_isFlow ⟨Nat.le_of_ble_eq_true rfl, Nat.le_of_ble_eq_true rfl⟩ (Nat.le_of_ble_eq_true rfl) rfl rfl rfl ?_
        refine V_if_eq (pc := 44) (tgt := 89) X (th_da dtX4_ranked 25 rfl) (by decide) (fun c5 => ?_) (fun c5 => ?_)
        · rw [if_pos c5] at hf
          refine V_iconst (pc := 89) (v := 0) X (th_da dtX4_ranked 49 rfl) (by decide) ?_
          refine V_iadd (pc := 90) X (th_da dtX4_ranked 50 rfl) ?_
          refine V_istore_n (pc := 91) (ls2 := [.ref 0, .int y1, .int y2, .int (y3 + 0), .int y4]) X (th_da dtX4_ranked 51 rfl) (Nat.le_of_ble_eq_true rfl) rfl rfl ?_
          refine V_iinc (pc := 92) (v := y4 + 1) (ls2 := [.ref 0, .int y1, .int y2, .int (y3 + 0), .int (y4 + 1)]) X (th_da dtX4_ranked 52 rfl) rfl rfl (Nat.le_of_ble_eq_true rfl) rfl rfl ?_
          refine V_goto (pc := 95) (tgt := 22) X (th_da dtX4_ranked 53 rfl) (by decide) ?_
          exact ih _ _ _ _ _ hf
        · rw [if_neg c5] at hf
          refine V_aload_n (pc := 47) X (th_da dtX4_ranked 26 rfl) rfl ?_
          refine V_getR (pc := 48) (j := 7) (t := 7) X (th_da dtX4_ranked 27 rfl) wfl_X4_31 iX4 rfl rfl (Nat.le_of_ble_eq_true rfl) rfl ?_
          refine V_iload (pc := 51) X (th_da dtX4_ranked 28 rfl) rfl ?_
          obtain ⟨v6, e6, g6, hf⟩ := th_rd_some hf
          refine V_iald (pc := 53) X (th_da dtX4_ranked 29 rfl) rfl g6 e6 ?_
          refine V_aload_n (pc := 54) X (th_da dtX4_ranked 30 rfl) rfl ?_
          refine V_getR (pc := 55) (j := 7) (t := 7) X (th_da dtX4_ranked 31 rfl) wfl_X4_31 iX4 rfl rfl (Nat.le_of_ble_eq_true rfl) rfl ?_
          refine V_iload_n (pc := 58) X (th_da dtX4_ranked 32 rfl) rfl ?_
          obtain ⟨v7, e7, g7, hf⟩ := th_rd_some hf
          refine V_iald (pc := 59) X (th_da dtX4_ranked 33 rfl) rfl g7 e7 ?_
          refine V_icmp_lt (pc := 60) (tgt := 85) X (th_da dtX4_ranked 34 rfl) (by decide) (fun c8 => ?_) (fun c8 => ?_)
          · rw [if_pos c8] at hf
            refine V_iconst (pc := 85) (v := 1) X (th_da dtX4_ranked 47 rfl) (by decide) ?_
            refine V_goto (pc := 86) (tgt := 90) X (th_da dtX4_ranked 48 rfl) (by decide) ?_
            refine V_iadd (pc := 90) X (th_da dtX4_ranked 50 rfl) ?_
            refine V_istore_n (pc := 91) (ls2 := [.ref 0, .int y1, .int y2, .int (y3 + 1), .int y4]) X (th_da dtX4_ranked 51 rfl) (Nat.le_of_ble_eq_true rfl) rfl rfl ?_
            refine V_iinc (pc := 92) (v := y4 + 1) (ls2 := [.ref 0, .int y1, .int y2, .int (y3 + 1), .int (y4 + 1)]) X (th_da dtX4_ranked 52 rfl) rfl rfl (Nat.le_of_ble_eq_true rfl) rfl rfl ?_
            refine V_goto (pc := 95) (tgt := 22) X (th_da dtX4_ranked 53 rfl) (by decide) ?_
            exact ih _ _ _ _ _ hf
          · rw [if_neg c8] at hf
            refine V_aload_n (pc := 63) X (th_da dtX4_ranked 35 rfl) rfl ?_
            refine V_getR (pc := 64) (j := 7) (t := 7) X (th_da dtX4_ranked 36 rfl) wfl_X4_31 iX4 rfl rfl (Nat.le_of_ble_eq_true rfl) rfl ?_
            refine V_iload (pc := 67) X (th_da dtX4_ranked 37 rfl) rfl ?_
            obtain ⟨v9, e9, g9, hf⟩ := th_rd_some hf
            refine V_iald (pc := 69) X (th_da dtX4_ranked 38 rfl) rfl g9 e9 ?_
            refine V_aload_n (pc := 70) X (th_da dtX4_ranked 39 rfl) rfl ?_
            refine V_getR (pc := 71) (j := 7) (t := 7) X (th_da dtX4_ranked 40 rfl) wfl_X4_31 iX4 rfl rfl (Nat.le_of_ble_eq_true rfl) rfl ?_
            refine V_iload_n (pc := 74) X (th_da dtX4_ranked 41 rfl) rfl ?_
            obtain ⟨v10, e10, g10, hf⟩ := th_rd_some hf
            refine V_iald (pc := 75) X (th_da dtX4_ranked 42 rfl) rfl g10 e10 ?_
            refine V_icmp_ne (pc := 76) (tgt := 89) X (th_da dtX4_ranked 43 rfl) (by decide) (fun c11 => ?_) (fun c11 => ?_)
            · rw [if_pos c11] at hf
              refine V_iload (pc := 79) X (th_da dtX4_ranked 44 rfl) rfl ?_
              refine V_iload_n (pc := 81) X (th_da dtX4_ranked 45 rfl) rfl ?_
              refine V_icmp_ge (pc := 82) (tgt := 89) X (th_da dtX4_ranked 46 rfl) (by decide) (fun c12 => ?_) (fun c12 => ?_)
              · rw [if_pos c12] at hf
                refine V_iconst (pc := 85) (v := 1) X (th_da dtX4_ranked 47 rfl) (by decide) ?_
                refine V_goto (pc := 86) (tgt := 90) X (th_da dtX4_ranked 48 rfl) (by decide) ?_
                refine V_iadd (pc := 90) X (th_da dtX4_ranked 50 rfl) ?_
                refine V_istore_n (pc := 91) (ls2 := [.ref 0, .int y1, .int y2, .int (y3 + 1), .int y4]) X (th_da dtX4_ranked 51 rfl) (Nat.le_of_ble_eq_true rfl) rfl rfl ?_
                refine V_iinc (pc := 92) (v := y4 + 1) (ls2 := [.ref 0, .int y1, .int y2, .int (y3 + 1), .int (y4 + 1)]) X (th_da dtX4_ranked 52 rfl) rfl rfl (Nat.le_of_ble_eq_true rfl) rfl rfl ?_
                refine V_goto (pc := 95) (tgt := 22) X (th_da dtX4_ranked 53 rfl) (by decide) ?_
                exact ih _ _ _ _ _ hf
              · rw [if_neg c12] at hf
                refine V_iconst (pc := 89) (v := 0) X (th_da dtX4_ranked 49 rfl) (by decide) ?_
                refine V_iadd (pc := 90) X (th_da dtX4_ranked 50 rfl) ?_
                refine V_istore_n (pc := 91) (ls2 := [.ref 0, .int y1, .int y2, .int (y3 + 0), .int y4]) X (th_da dtX4_ranked 51 rfl) (Nat.le_of_ble_eq_true rfl) rfl rfl ?_
                refine V_iinc (pc := 92) (v := y4 + 1) (ls2 := [.ref 0, .int y1, .int y2, .int (y3 + 0), .int (y4 + 1)]) X (th_da dtX4_ranked 52 rfl) rfl rfl (Nat.le_of_ble_eq_true rfl) rfl rfl ?_
                refine V_goto (pc := 95) (tgt := 22) X (th_da dtX4_ranked 53 rfl) (by decide) ?_
                exact ih _ _ _ _ _ hf
            · rw [if_neg c11] at hf
              refine V_iconst (pc := 89) (v := 0) X (th_da dtX4_ranked 49 rfl) (by decide) ?_
              refine V_iadd (pc := 90) X (th_da dtX4_ranked 50 rfl) ?_
              refine V_istore_n (pc := 91) (ls2 := [.ref 0, .int y1, .int y2, .int (y3 + 0), .int y4]) X (th_da dtX4_ranked 51 rfl) (Nat.le_of_ble_eq_true rfl) rfl rfl ?_
              refine V_iinc (pc := 92) (v := y4 + 1) (ls2 := [.ref 0, .int y1, .int y2, .int (y3 + 0), .int (y4 + 1)]) X (th_da dtX4_ranked 52 rfl) rfl rfl (Nat.le_of_ble_eq_true rfl) rfl rfl ?_
              refine V_goto (pc := 95) (tgt := 22) X (th_da dtX4_ranked 53 rfl) (by decide) ?_
              exact ih _ _ _ _ _ hf
    · rw [if_neg c1] at hf
      refine V_mask [true, true, true, true, false] (ls2 := [.ref 0, .int y1, .int y2, .int y3, .null]) rfl ?_
      exact tX4_ranked_c98 X _ hk11 _ _ _ _ hf
set_option maxHeartbeats 4000000 in
set_option maxRecDepth 100000 in
theorem tX4_ranked_c11 (X : th_X p0 s m args meth c D cI cZ ad LM 5 RX4 cX4_ranked (some .int)) : ∀ (n : Nat) (y1 : Int32) (y2 : Int32) (h : th_H), fX4_ranked_c11 n y1 y2 h = some (rr, hh) → th_V p0 l e { frames := 5, cells := 0, slots := 0, locals := 115 } s m args below meth c D cI cZ ad LM 5 (some (.int rr)) hh 11 [.ref 0, .int y1, .int y2, .null, .null] [] h := by
  intro n
  induction n with
  | zero => intro y1 y2 h hf; cases hf
  | succ n ih =>
    intro y1 y2 h hf
    rw [fX4_ranked_c11] at hf
    refine V_iload_n (pc := 11) X (th_da dtX4_ranked 7 rfl) rfl ?_
    refine V_bipush (pc := 12) (v := 20) X (th_da dtX4_ranked 8 rfl) (by decide) ?_
    refine V_icmp_ge (pc := 14) (tgt := 119) X (th_da dtX4_ranked 9 rfl) (by decide) (fun c1 => ?_) (fun c1 => ?_)
    · rw [if_pos c1] at hf
      refine V_iconst (pc := 17) (v := 0) X (th_da dtX4_ranked 10 rfl) (by decide) ?_
      refine V_istore_n (pc := 18) (ls2 := [.ref 0, .int y1, .int y2, .int 0, .null]) X (th_da dtX4_ranked 11 rfl) (Nat.le_of_ble_eq_true rfl) rfl rfl ?_
      refine V_iconst (pc := 19) (v := 0) X (th_da dtX4_ranked 12 rfl) (by decide) ?_
      refine V_istore (pc := 20) (ls2 := [.ref 0, .int y1, .int y2, .int 0, .int 0]) X (th_da dtX4_ranked 13 rfl) (Nat.le_of_ble_eq_true rfl) rfl rfl ?_
      exact tX4_ranked_c22 X _ ih _ _ _ _ _ _ hf
    · rw [if_neg c1] at hf
      refine V_iconst (pc := 119) (v := (-1)) X (th_da dtX4_ranked 65 rfl) (by decide) ?_
      exact V_iretF (pc := 120) X (th_da dtX4_ranked 66 rfl) hf
set_option maxHeartbeats 4000000 in
set_option maxRecDepth 100000 in
theorem mX4_ranked (l : Launch) (x1 : Int32) (h : th_H) (rr : Int32) (hh : th_H) (hf : fX4_ranked x1 h = some (rr, hh)) : th_MI l LM yX4_ranked cX4_ranked 5 (some .int) 5 115 [.ref 0, .int x1] h (some (.int rr)) hh := by
  refine th_MI_of (ls := [.ref 0, .int x1, .null, .null, .null]) RX4 rfl rfl rfl (Nat.le_of_ble_eq_true rfl) ?_
  intro p0 e s m args below meth c D cI cZ ad X
  unfold fX4_ranked at hf
  refine V_aload_n (pc := 0) X (th_da dtX4_ranked 0 rfl) rfl ?_
  refine V_iconst (pc := 1) (v := 0) X (th_da dtX4_ranked 1 rfl) (by decide) ?_
  obtain ⟨h1, e1, hf⟩ := th_st_some hf
  refine V_putI (pc := 2) (j := 0) (ty := .int) X (th_da dtX4_ranked 2 rfl) wfl_X4_55 iX4 rfl rfl (Nat.le_of_ble_eq_true rfl) rfl tyX4 tyX4_ok nmX4 rfl (tyX4_ok 0 (Nat.le_of_ble_eq_true rfl)) rfl rfl e1 ?_
  refine V_aload_n (pc := 5) X (th_da dtX4_ranked 3 rfl) rfl ?_
  obtain ⟨u2, h2, e2, hf⟩ := th_bd_some hf
  refine V_callVv (pc := 6) (q := 0) (As := []) X (th_da dtX4_ranked 4 rfl) (mX4_layFair l _ _ _ e2) wcd_X4_layFair wml_X4_207 wim_X4_layFair wse_X4_layFair win_X4_layFair hd_X4_layFair ⟨Nat.le_of_ble_eq_true rfl, Nat.le_of_ble_eq_true rfl⟩ (Nat.le_of_ble_eq_true rfl) rfl rfl rfl ?_
  refine V_iconst (pc := 9) (v := 0) X (th_da dtX4_ranked 5 rfl) (by decide) ?_
  refine V_istore_n (pc := 10) (ls2 := [.ref 0, .int x1, .int 0, .null, .null]) X (th_da dtX4_ranked 6 rfl) (Nat.le_of_ble_eq_true rfl) rfl rfl ?_
  exact tX4_ranked_c11 X _ _ _ _ hf
end
def fX4_proof_c119 (k53 : Int32 → Int32 → Int32 → Int32 → Int32 → Int32 → Int32 → th_H → Option (Int32 × th_H)) (y1 : Int32) (y2 : Int32) (y3 : Int32) (y4 : Int32) (y6 : Int32) (y7 : Int32) (z0 : Int32) (z1 : Int32) (h : th_H) : Option (Int32 × th_H) :=
  th_rd h 7 20 y7 fun v1 =>
  th_rd h 7 20 y1 fun v2 =>
  if (v1 < v2 : Prop) then
    th_bd (fX4_fairRate y7 h) fun u4 h4 =>
    k53 y1 y2 y3 y4 (z0 + z1) (y6 + u4) (y7 + 1) h4
  else
    k53 y1 y2 y3 y4 (z0 + z1) (y6 + 0) (y7 + 1) h
def fX4_proof_c93 (k53 : Int32 → Int32 → Int32 → Int32 → Int32 → Int32 → Int32 → th_H → Option (Int32 × th_H)) (y1 : Int32) (y2 : Int32) (y3 : Int32) (y5 : Int32) (y6 : Int32) (y7 : Int32) (z0 : Int32) (z1 : Int32) (h : th_H) : Option (Int32 × th_H) :=
  th_rd h 7 20 y7 fun v1 =>
  th_rd h 7 20 y1 fun v2 =>
  if (v1 = v2 : Prop) then
    fX4_proof_c119 k53 y1 y2 y3 (z0 + z1) y6 y7 y5 1 h
  else
    fX4_proof_c119 k53 y1 y2 y3 (z0 + z1) y6 y7 y5 0 h
def fX4_proof_c53 : Nat → Int32 → Int32 → Int32 → Int32 → Int32 → Int32 → Int32 → th_H → Option (Int32 × th_H)
  | 0, _, _, _, _, _, _, _, _ => none
  | n + 1, y1, y2, y3, y4, y5, y6, y7, h =>
    if (y7 < 20 : Prop) then
      th_bd (fX4_goesOver y7 y3 h) fun u2 h2 =>
      if (u2 = 0 : Prop) then
        fX4_proof_c53 n y1 y2 y3 y4 y5 y6 (y7 + 1) h2
      else
        th_rd h2 7 20 y7 fun v4 =>
        th_rd h2 7 20 y1 fun v5 =>
        if (v5 < v4 : Prop) then
          fX4_proof_c93 (fX4_proof_c53 n) y1 y2 y3 y5 y6 y7 y4 1 h2
        else
          fX4_proof_c93 (fX4_proof_c53 n) y1 y2 y3 y5 y6 y7 y4 0 h2
    else
      if (y2 = 0 : Prop) then
        some (y4, h)
      else
        if (y2 = 1 : Prop) then
          some (y5, h)
        else
          some (y6, h)
def fX4_proof (x1 : Int32) (x2 : Int32) (h : th_H) : Option (Int32 × th_H) :=
  th_bd (fX4_isThere x1 h) fun u1 h1 =>
  if (u1 = 0 : Prop) then
    some (0, h1)
  else
    th_bd (fX4_layFair h1) fun _u3 h3 =>
    th_rd h3 8 20 x1 fun v4 =>
    if (v4 = 10 : Prop) then
      some ((-1), h3)
    else
      th_bd (fX4_in (Int32.toInt64 x2) 0 2 h3) fun u6 h6 =>
      if (u6 = 0 : Prop) then
        some ((-1), h6)
      else
        fX4_proof_c53 1000 x1 x2 v4 0 0 0 0 h6
def tbX4_proof : List (Nat × Instr × Nat) := [(0, .aload_n 0, 1), (1, .iload_n 1, 1), (2, .invokevirtual 202, 3), (5, .ifCond .ne 5, 3), (8, .iconst 0, 1), (9, .ireturn, 1), (10, .aload_n 0, 1), (11, .invokevirtual 207, 3), (14, .aload_n 0, 1), (15, .getfield 34, 3), (18, .iload_n 1, 1), (19, .iaload, 1), (20, .istore_n 3, 1), (21, .iload_n 3, 1), (22, .bipush 10, 2), (24, .if_icmp .eq 15, 3), (27, .iload_n 2, 1), (28, .i2l, 1), (29, .lconst 0, 1), (30, .ldc2_w 131, 3), (33, .invokestatic 63, 3), (36, .ifCond .ne 5, 3), (39, .iconst (-1), 1), (40, .ireturn, 1), (41, .iconst 0, 1), (42, .istore 4, 2), (44, .iconst 0, 1), (45, .istore 5, 2), (47, .iconst 0, 1), (48, .istore 6, 2), (50, .iconst 0, 1), (51, .istore 7, 2), (53, .iload 7, 2), (55, .bipush 20, 2), (57, .if_icmp .ge 102, 3), (60, .aload_n 0, 1), (61, .iload 7, 2), (63, .iload_n 3, 1), (64, .invokevirtual 75, 3), (67, .ifCond .eq 86, 3), (70, .iload 4, 2), (72, .aload_n 0, 1), (73, .getfield 31, 3), (76, .iload 7, 2), (78, .iaload, 1), (79, .aload_n 0, 1), (80, .getfield 31, 3), (83, .iload_n 1, 1), (84, .iaload, 1), (85, .if_icmp .le 7, 3), (88, .iconst 1, 1), (89, .goto 4, 3), (92, .iconst 0, 1), (93, .iadd, 1), (94, .istore 4, 2), (96, .iload 5, 2), (98, .aload_n 0, 1), (99, .getfield 31, 3), (102, .iload 7, 2), (104, .iaload, 1), (105, .aload_n 0, 1), (106, .getfield 31, 3), (109, .iload_n 1, 1), (110, .iaload, 1), (111, .if_icmp .ne 7, 3), (114, .iconst 1, 1), (115, .goto 4, 3), (118, .iconst 0, 1), (119, .iadd, 1), (120, .istore 5, 2), (122, .iload 6, 2), (124, .aload_n 0, 1), (125, .getfield 31, 3), (128, .iload 7, 2), (130, .iaload, 1), (131, .aload_n 0, 1), (132, .getfield 31, 3), (135, .iload_n 1, 1), (136, .iaload, 1), (137, .if_icmp .ge 12, 3), (140, .aload_n 0, 1), (141, .iload 7, 2), (143, .invokevirtual 199, 3), (146, .goto 4, 3), (149, .iconst 0, 1), (150, .iadd, 1), (151, .istore 6, 2), (153, .iinc 7 1, 3), (156, .goto (-103), 3), (159, .iload_n 2, 1), (160, .ifCond .ne 8, 3), (163, .iload 4, 2), (165, .goto 15, 3), (168, .iload_n 2, 1), (169, .iconst 1, 1), (170, .if_icmp .ne 8, 3), (173, .iload 5, 2), (175, .goto 5, 3), (178, .iload 6, 2), (180, .ireturn, 1)]
theorem dtX4_proof : th_dec cX4_proof tbX4_proof = true := by decide +kernel
section
variable {p0 : Program} {l : Launch} {e : Env} {s : State} {m : MethodId} {args : Array Value} {below : List Frame} {meth : Method} {c : Code} {D : va_G} {cI cZ : ClassId} {ad : Nat → Nat} {rr : Int32} {hh : th_H}
set_option maxHeartbeats 4000000 in
set_option maxRecDepth 100000 in
theorem tX4_proof_c119 (X : th_X p0 s m args meth c D cI cZ ad LM 8 RX4 cX4_proof (some .int)) (k53 : Int32 → Int32 → Int32 → Int32 → Int32 → Int32 → Int32 → th_H → Option (Int32 × th_H)) (hk53 : ∀ (y1 : Int32) (y2 : Int32) (y3 : Int32) (y4 : Int32) (y5 : Int32) (y6 : Int32) (y7 : Int32) (h : th_H), k53 y1 y2 y3 y4 y5 y6 y7 h = some (rr, hh) → th_V p0 l e { frames := 5, cells := 0, slots := 0, locals := 115 } s m args below meth c D cI cZ ad LM 8 (some (.int rr)) hh 53 [.ref 0, .int y1, .int y2, .int y3, .int y4, .int y5, .int y6, .int y7] [] h) (y1 : Int32) (y2 : Int32) (y3 : Int32) (y4 : Int32) (y6 : Int32) (y7 : Int32) (z0 : Int32) (z1 : Int32) (h : th_H) (hf : fX4_proof_c119 k53 y1 y2 y3 y4 y6 y7 z0 z1 h = some (rr, hh)) : th_V p0 l e { frames := 5, cells := 0, slots := 0, locals := 115 } s m args below meth c D cI cZ ad LM 8 (some (.int rr)) hh 119 [.ref 0, .int y1, .int y2, .int y3, .int y4, .null, .int y6, .int y7] [.int z1, .int z0] h := by
  unfold fX4_proof_c119 at hf
  refine V_iadd (pc := 119) X (th_da dtX4_proof 68 rfl) ?_
  refine V_istore (pc := 120) (ls2 := [.ref 0, .int y1, .int y2, .int y3, .int y4, .int (z0 + z1), .int y6, .int y7]) X (th_da dtX4_proof 69 rfl) (Nat.le_of_ble_eq_true rfl) rfl rfl ?_
  refine V_iload (pc := 122) X (th_da dtX4_proof 70 rfl) rfl ?_
  refine V_aload_n (pc := 124) X (th_da dtX4_proof 71 rfl) rfl ?_
  refine V_getR (pc := 125) (j := 7) (t := 7) X (th_da dtX4_proof 72 rfl) wfl_X4_31 iX4 rfl rfl (Nat.le_of_ble_eq_true rfl) rfl ?_
  refine V_iload (pc := 128) X (th_da dtX4_proof 73 rfl) rfl ?_
  obtain ⟨v1, e1, g1, hf⟩ := th_rd_some hf
  refine V_iald (pc := 130) X (th_da dtX4_proof 74 rfl) rfl g1 e1 ?_
  refine V_aload_n (pc := 131) X (th_da dtX4_proof 75 rfl) rfl ?_
  refine V_getR (pc := 132) (j := 7) (t := 7) X (th_da dtX4_proof 76 rfl) wfl_X4_31 iX4 rfl rfl (Nat.le_of_ble_eq_true rfl) rfl ?_
  refine V_iload_n (pc := 135) X (th_da dtX4_proof 77 rfl) rfl ?_
  obtain ⟨v2, e2, g2, hf⟩ := th_rd_some hf
  refine V_iald (pc := 136) X (th_da dtX4_proof 78 rfl) rfl g2 e2 ?_
  refine V_icmp_ge (pc := 137) (tgt := 149) X (th_da dtX4_proof 79 rfl) (by decide) (fun c3 => ?_) (fun c3 => ?_)
  · rw [if_pos c3] at hf
    refine V_aload_n (pc := 140) X (th_da dtX4_proof 80 rfl) rfl ?_
    refine V_iload (pc := 141) X (th_da dtX4_proof 81 rfl) rfl ?_
    obtain ⟨u4, h4, e4, hf⟩ := th_bd_some hf
    refine V_callVi (pc := 143) (q := 0) (As := [.int y7]) X (th_da dtX4_proof 82 rfl) (mX4_fairRate l _ _ _ _ e4) wcd_X4_fairRate wml_X4_199 wim_X4_fairRate wse_X4_fairRate win_X4_fairRate hd_X4_fairRate ⟨Nat.le_of_ble_eq_true rfl, Nat.le_of_ble_eq_true rfl⟩ (Nat.le_of_ble_eq_true rfl) rfl rfl rfl ?_
    refine V_goto (pc := 146) (tgt := 150) X (th_da dtX4_proof 83 rfl) (by decide) ?_
    refine V_iadd (pc := 150) X (th_da dtX4_proof 85 rfl) ?_
    refine V_istore (pc := 151) (ls2 := [.ref 0, .int y1, .int y2, .int y3, .int y4, .int (z0 + z1), .int (y6 + u4), .int y7]) X (th_da dtX4_proof 86 rfl) (Nat.le_of_ble_eq_true rfl) rfl rfl ?_
    refine V_iinc (pc := 153) (v := y7 + 1) (ls2 := [.ref 0, .int y1, .int y2, .int y3, .int y4, .int (z0 + z1), .int (y6 + u4), .int (y7 + 1)]) X (th_da dtX4_proof 87 rfl) rfl rfl (Nat.le_of_ble_eq_true rfl) rfl rfl ?_
    refine V_goto (pc := 156) (tgt := 53) X (th_da dtX4_proof 88 rfl) (by decide) ?_
    exact hk53 _ _ _ _ _ _ _ _ hf
  · rw [if_neg c3] at hf
    refine V_iconst (pc := 149) (v := 0) X (th_da dtX4_proof 84 rfl) (by decide) ?_
    refine V_iadd (pc := 150) X (th_da dtX4_proof 85 rfl) ?_
    refine V_istore (pc := 151) (ls2 := [.ref 0, .int y1, .int y2, .int y3, .int y4, .int (z0 + z1), .int (y6 + 0), .int y7]) X (th_da dtX4_proof 86 rfl) (Nat.le_of_ble_eq_true rfl) rfl rfl ?_
    refine V_iinc (pc := 153) (v := y7 + 1) (ls2 := [.ref 0, .int y1, .int y2, .int y3, .int y4, .int (z0 + z1), .int (y6 + 0), .int (y7 + 1)]) X (th_da dtX4_proof 87 rfl) rfl rfl (Nat.le_of_ble_eq_true rfl) rfl rfl ?_
    refine V_goto (pc := 156) (tgt := 53) X (th_da dtX4_proof 88 rfl) (by decide) ?_
    exact hk53 _ _ _ _ _ _ _ _ hf
set_option maxHeartbeats 4000000 in
set_option maxRecDepth 100000 in
theorem tX4_proof_c93 (X : th_X p0 s m args meth c D cI cZ ad LM 8 RX4 cX4_proof (some .int)) (k53 : Int32 → Int32 → Int32 → Int32 → Int32 → Int32 → Int32 → th_H → Option (Int32 × th_H)) (hk53 : ∀ (y1 : Int32) (y2 : Int32) (y3 : Int32) (y4 : Int32) (y5 : Int32) (y6 : Int32) (y7 : Int32) (h : th_H), k53 y1 y2 y3 y4 y5 y6 y7 h = some (rr, hh) → th_V p0 l e { frames := 5, cells := 0, slots := 0, locals := 115 } s m args below meth c D cI cZ ad LM 8 (some (.int rr)) hh 53 [.ref 0, .int y1, .int y2, .int y3, .int y4, .int y5, .int y6, .int y7] [] h) (y1 : Int32) (y2 : Int32) (y3 : Int32) (y5 : Int32) (y6 : Int32) (y7 : Int32) (z0 : Int32) (z1 : Int32) (h : th_H) (hf : fX4_proof_c93 k53 y1 y2 y3 y5 y6 y7 z0 z1 h = some (rr, hh)) : th_V p0 l e { frames := 5, cells := 0, slots := 0, locals := 115 } s m args below meth c D cI cZ ad LM 8 (some (.int rr)) hh 93 [.ref 0, .int y1, .int y2, .int y3, .null, .int y5, .int y6, .int y7] [.int z1, .int z0] h := by
  unfold fX4_proof_c93 at hf
  refine V_iadd (pc := 93) X (th_da dtX4_proof 53 rfl) ?_
  refine V_istore (pc := 94) (ls2 := [.ref 0, .int y1, .int y2, .int y3, .int (z0 + z1), .int y5, .int y6, .int y7]) X (th_da dtX4_proof 54 rfl) (Nat.le_of_ble_eq_true rfl) rfl rfl ?_
  refine V_iload (pc := 96) X (th_da dtX4_proof 55 rfl) rfl ?_
  refine V_aload_n (pc := 98) X (th_da dtX4_proof 56 rfl) rfl ?_
  refine V_getR (pc := 99) (j := 7) (t := 7) X (th_da dtX4_proof 57 rfl) wfl_X4_31 iX4 rfl rfl (Nat.le_of_ble_eq_true rfl) rfl ?_
  refine V_iload (pc := 102) X (th_da dtX4_proof 58 rfl) rfl ?_
  obtain ⟨v1, e1, g1, hf⟩ := th_rd_some hf
  refine V_iald (pc := 104) X (th_da dtX4_proof 59 rfl) rfl g1 e1 ?_
  refine V_aload_n (pc := 105) X (th_da dtX4_proof 60 rfl) rfl ?_
  refine V_getR (pc := 106) (j := 7) (t := 7) X (th_da dtX4_proof 61 rfl) wfl_X4_31 iX4 rfl rfl (Nat.le_of_ble_eq_true rfl) rfl ?_
  refine V_iload_n (pc := 109) X (th_da dtX4_proof 62 rfl) rfl ?_
  obtain ⟨v2, e2, g2, hf⟩ := th_rd_some hf
  refine V_iald (pc := 110) X (th_da dtX4_proof 63 rfl) rfl g2 e2 ?_
  refine V_icmp_ne (pc := 111) (tgt := 118) X (th_da dtX4_proof 64 rfl) (by decide) (fun c3 => ?_) (fun c3 => ?_)
  · rw [if_pos c3] at hf
    refine V_iconst (pc := 114) (v := 1) X (th_da dtX4_proof 65 rfl) (by decide) ?_
    refine V_goto (pc := 115) (tgt := 119) X (th_da dtX4_proof 66 rfl) (by decide) ?_
    refine V_mask [true, true, true, true, true, false, true, true] (ls2 := [.ref 0, .int y1, .int y2, .int y3, .int (z0 + z1), .null, .int y6, .int y7]) rfl ?_
    exact tX4_proof_c119 X _ hk53 _ _ _ _ _ _ _ _ _ hf
  · rw [if_neg c3] at hf
    refine V_iconst (pc := 118) (v := 0) X (th_da dtX4_proof 67 rfl) (by decide) ?_
    refine V_mask [true, true, true, true, true, false, true, true] (ls2 := [.ref 0, .int y1, .int y2, .int y3, .int (z0 + z1), .null, .int y6, .int y7]) rfl ?_
    exact tX4_proof_c119 X _ hk53 _ _ _ _ _ _ _ _ _ hf
set_option maxHeartbeats 4000000 in
set_option maxRecDepth 100000 in
theorem tX4_proof_c53 (X : th_X p0 s m args meth c D cI cZ ad LM 8 RX4 cX4_proof (some .int)) : ∀ (n : Nat) (y1 : Int32) (y2 : Int32) (y3 : Int32) (y4 : Int32) (y5 : Int32) (y6 : Int32) (y7 : Int32) (h : th_H), fX4_proof_c53 n y1 y2 y3 y4 y5 y6 y7 h = some (rr, hh) → th_V p0 l e { frames := 5, cells := 0, slots := 0, locals := 115 } s m args below meth c D cI cZ ad LM 8 (some (.int rr)) hh 53 [.ref 0, .int y1, .int y2, .int y3, .int y4, .int y5, .int y6, .int y7] [] h := by
  intro n
  induction n with
  | zero => intro y1 y2 y3 y4 y5 y6 y7 h hf; cases hf
  | succ n ih =>
    intro y1 y2 y3 y4 y5 y6 y7 h hf
    rw [fX4_proof_c53] at hf
    refine V_iload (pc := 53) X (th_da dtX4_proof 32 rfl) rfl ?_
    refine V_bipush (pc := 55) (v := 20) X (th_da dtX4_proof 33 rfl) (by decide) ?_
    refine V_icmp_ge (pc := 57) (tgt := 159) X (th_da dtX4_proof 34 rfl) (by decide) (fun c1 => ?_) (fun c1 => ?_)
    · rw [if_pos c1] at hf
      refine V_aload_n (pc := 60) X (th_da dtX4_proof 35 rfl) rfl ?_
      refine V_iload (pc := 61) X (th_da dtX4_proof 36 rfl) rfl ?_
      refine V_iload_n (pc := 63) X (th_da dtX4_proof 37 rfl) rfl ?_
      obtain ⟨u2, h2, e2, hf⟩ := th_bd_some hf
      refine V_callVi (pc := 64) (q := 0) (As := [.int y7, .int y3]) X (th_da dtX4_proof 38 rfl) (mX4_goesOver l _ _ _ _ _ e2) wcd_X4_goesOver wml_X4_75 wim_X4_goesOver wse_X4_goesOver win_X4_goesOver hd_X4_goesOver ⟨Nat.le_of_ble_eq_true rfl, Nat.le_of_ble_eq_true rfl⟩ (Nat.le_of_ble_eq_true rfl) rfl rfl rfl ?_
      refine V_if_eq (pc := 67) (tgt := 153) X (th_da dtX4_proof 39 rfl) (by decide) (fun c3 => ?_) (fun c3 => ?_)
      · rw [if_pos c3] at hf
        refine V_iinc (pc := 153) (v := y7 + 1) (ls2 := [.ref 0, .int y1, .int y2, .int y3, .int y4, .int y5, .int y6, .int (y7 + 1)]) X (th_da dtX4_proof 87 rfl) rfl rfl (Nat.le_of_ble_eq_true rfl) rfl rfl ?_
        refine V_goto (pc := 156) (tgt := 53) X (th_da dtX4_proof 88 rfl) (by decide) ?_
        exact ih _ _ _ _ _ _ _ _ hf
      · rw [if_neg c3] at hf
        refine V_iload (pc := 70) X (th_da dtX4_proof 40 rfl) rfl ?_
        refine V_aload_n (pc := 72) X (th_da dtX4_proof 41 rfl) rfl ?_
        refine V_getR (pc := 73) (j := 7) (t := 7) X (th_da dtX4_proof 42 rfl) wfl_X4_31 iX4 rfl rfl (Nat.le_of_ble_eq_true rfl) rfl ?_
        refine V_iload (pc := 76) X (th_da dtX4_proof 43 rfl) rfl ?_
        obtain ⟨v4, e4, g4, hf⟩ := th_rd_some hf
        refine V_iald (pc := 78) X (th_da dtX4_proof 44 rfl) rfl g4 e4 ?_
        refine V_aload_n (pc := 79) X (th_da dtX4_proof 45 rfl) rfl ?_
        refine V_getR (pc := 80) (j := 7) (t := 7) X (th_da dtX4_proof 46 rfl) wfl_X4_31 iX4 rfl rfl (Nat.le_of_ble_eq_true rfl) rfl ?_
        refine V_iload_n (pc := 83) X (th_da dtX4_proof 47 rfl) rfl ?_
        obtain ⟨v5, e5, g5, hf⟩ := th_rd_some hf
        refine V_iald (pc := 84) X (th_da dtX4_proof 48 rfl) rfl g5 e5 ?_
        refine V_icmp_le (pc := 85) (tgt := 92) X (th_da dtX4_proof 49 rfl) (by decide) (fun c6 => ?_) (fun c6 => ?_)
        · rw [if_pos c6] at hf
          refine V_iconst (pc := 88) (v := 1) X (th_da dtX4_proof 50 rfl) (by decide) ?_
          refine V_goto (pc := 89) (tgt := 93) X (th_da dtX4_proof 51 rfl) (by decide) ?_
          refine V_mask [true, true, true, true, false, true, true, true] (ls2 := [.ref 0, .int y1, .int y2, .int y3, .null, .int y5, .int y6, .int y7]) rfl ?_
          exact tX4_proof_c93 X _ ih _ _ _ _ _ _ _ _ _ hf
        · rw [if_neg c6] at hf
          refine V_iconst (pc := 92) (v := 0) X (th_da dtX4_proof 52 rfl) (by decide) ?_
          refine V_mask [true, true, true, true, false, true, true, true] (ls2 := [.ref 0, .int y1, .int y2, .int y3, .null, .int y5, .int y6, .int y7]) rfl ?_
          exact tX4_proof_c93 X _ ih _ _ _ _ _ _ _ _ _ hf
    · rw [if_neg c1] at hf
      refine V_iload_n (pc := 159) X (th_da dtX4_proof 89 rfl) rfl ?_
      refine V_if_ne (pc := 160) (tgt := 168) X (th_da dtX4_proof 90 rfl) (by decide) (fun c7 => ?_) (fun c7 => ?_)
      · rw [if_pos c7] at hf
        refine V_iload (pc := 163) X (th_da dtX4_proof 91 rfl) rfl ?_
        refine V_goto (pc := 165) (tgt := 180) X (th_da dtX4_proof 92 rfl) (by decide) ?_
        exact V_iretF (pc := 180) X (th_da dtX4_proof 99 rfl) hf
      · rw [if_neg c7] at hf
        refine V_iload_n (pc := 168) X (th_da dtX4_proof 93 rfl) rfl ?_
        refine V_iconst (pc := 169) (v := 1) X (th_da dtX4_proof 94 rfl) (by decide) ?_
        refine V_icmp_ne (pc := 170) (tgt := 178) X (th_da dtX4_proof 95 rfl) (by decide) (fun c8 => ?_) (fun c8 => ?_)
        · rw [if_pos c8] at hf
          refine V_iload (pc := 173) X (th_da dtX4_proof 96 rfl) rfl ?_
          refine V_goto (pc := 175) (tgt := 180) X (th_da dtX4_proof 97 rfl) (by decide) ?_
          exact V_iretF (pc := 180) X (th_da dtX4_proof 99 rfl) hf
        · rw [if_neg c8] at hf
          refine V_iload (pc := 178) X (th_da dtX4_proof 98 rfl) rfl ?_
          exact V_iretF (pc := 180) X (th_da dtX4_proof 99 rfl) hf
set_option maxHeartbeats 4000000 in
set_option maxRecDepth 100000 in
theorem mX4_proof (l : Launch) (x1 : Int32) (x2 : Int32) (h : th_H) (rr : Int32) (hh : th_H) (hf : fX4_proof x1 x2 h = some (rr, hh)) : th_MI l LM yX4_proof cX4_proof 8 (some .int) 5 115 [.ref 0, .int x1, .int x2] h (some (.int rr)) hh := by
  refine th_MI_of (ls := [.ref 0, .int x1, .int x2, .null, .null, .null, .null, .null]) RX4 rfl rfl rfl (Nat.le_of_ble_eq_true rfl) ?_
  intro p0 e s m args below meth c D cI cZ ad X
  unfold fX4_proof at hf
  refine V_aload_n (pc := 0) X (th_da dtX4_proof 0 rfl) rfl ?_
  refine V_iload_n (pc := 1) X (th_da dtX4_proof 1 rfl) rfl ?_
  obtain ⟨u1, h1, e1, hf⟩ := th_bd_some hf
  refine V_callVi (pc := 2) (q := 0) (As := [.int x1]) X (th_da dtX4_proof 2 rfl) (mX4_isThere l _ _ _ _ e1) wcd_X4_isThere wml_X4_202 wim_X4_isThere wse_X4_isThere win_X4_isThere hd_X4_isThere ⟨Nat.le_of_ble_eq_true rfl, Nat.le_of_ble_eq_true rfl⟩ (Nat.le_of_ble_eq_true rfl) rfl rfl rfl ?_
  refine V_if_ne (pc := 5) (tgt := 10) X (th_da dtX4_proof 3 rfl) (by decide) (fun c2 => ?_) (fun c2 => ?_)
  · rw [if_pos c2] at hf
    refine V_iconst (pc := 8) (v := 0) X (th_da dtX4_proof 4 rfl) (by decide) ?_
    exact V_iretF (pc := 9) X (th_da dtX4_proof 5 rfl) hf
  · rw [if_neg c2] at hf
    refine V_aload_n (pc := 10) X (th_da dtX4_proof 6 rfl) rfl ?_
    obtain ⟨u3, h3, e3, hf⟩ := th_bd_some hf
    refine V_callVv (pc := 11) (q := 0) (As := []) X (th_da dtX4_proof 7 rfl) (mX4_layFair l _ _ _ e3) wcd_X4_layFair wml_X4_207 wim_X4_layFair wse_X4_layFair win_X4_layFair hd_X4_layFair ⟨Nat.le_of_ble_eq_true rfl, Nat.le_of_ble_eq_true rfl⟩ (Nat.le_of_ble_eq_true rfl) rfl rfl rfl ?_
    refine V_aload_n (pc := 14) X (th_da dtX4_proof 8 rfl) rfl ?_
    refine V_getR (pc := 15) (j := 8) (t := 8) X (th_da dtX4_proof 9 rfl) wfl_X4_34 iX4 rfl rfl (Nat.le_of_ble_eq_true rfl) rfl ?_
    refine V_iload_n (pc := 18) X (th_da dtX4_proof 10 rfl) rfl ?_
    obtain ⟨v4, e4, g4, hf⟩ := th_rd_some hf
    refine V_iald (pc := 19) X (th_da dtX4_proof 11 rfl) rfl g4 e4 ?_
    refine V_istore_n (pc := 20) (ls2 := [.ref 0, .int x1, .int x2, .int v4, .null, .null, .null, .null]) X (th_da dtX4_proof 12 rfl) (Nat.le_of_ble_eq_true rfl) rfl rfl ?_
    refine V_iload_n (pc := 21) X (th_da dtX4_proof 13 rfl) rfl ?_
    refine V_bipush (pc := 22) (v := 10) X (th_da dtX4_proof 14 rfl) (by decide) ?_
    refine V_icmp_eq (pc := 24) (tgt := 39) X (th_da dtX4_proof 15 rfl) (by decide) (fun c5 => ?_) (fun c5 => ?_)
    · rw [if_pos c5] at hf
      refine V_iconst (pc := 39) (v := (-1)) X (th_da dtX4_proof 22 rfl) (by decide) ?_
      exact V_iretF (pc := 40) X (th_da dtX4_proof 23 rfl) hf
    · rw [if_neg c5] at hf
      refine V_iload_n (pc := 27) X (th_da dtX4_proof 16 rfl) rfl ?_
      refine V_i2l (pc := 28) X (th_da dtX4_proof 17 rfl) ?_
      refine V_lconst (pc := 29) (v := 0) X (th_da dtX4_proof 18 rfl) (by decide) ?_
      refine V_ldc2 (pc := 30) (v := 2) X (th_da dtX4_proof 19 rfl) wcl_X4_131 ?_
      obtain ⟨u6, h6, e6, hf⟩ := th_bd_some hf
      refine V_callSi (pc := 33) (As := [.long (Int32.toInt64 x2), .long 0, .long 2]) X (th_da dtX4_proof 20 rfl) (mX4_in l _ _ _ _ _ _ e6) wcd_X4_in wml_X4_63 wst_X4_in win_X4_in hd_X4_in ⟨Nat.le_of_ble_eq_true rfl, Nat.le_of_ble_eq_true rfl⟩ (Nat.le_of_ble_eq_true rfl) rfl ?_
      refine V_if_ne (pc := 36) (tgt := 41) X (th_da dtX4_proof 21 rfl) (by decide) (fun c7 => ?_) (fun c7 => ?_)
      · rw [if_pos c7] at hf
        refine V_iconst (pc := 39) (v := (-1)) X (th_da dtX4_proof 22 rfl) (by decide) ?_
        exact V_iretF (pc := 40) X (th_da dtX4_proof 23 rfl) hf
      · rw [if_neg c7] at hf
        refine V_iconst (pc := 41) (v := 0) X (th_da dtX4_proof 24 rfl) (by decide) ?_
        refine V_istore (pc := 42) (ls2 := [.ref 0, .int x1, .int x2, .int v4, .int 0, .null, .null, .null]) X (th_da dtX4_proof 25 rfl) (Nat.le_of_ble_eq_true rfl) rfl rfl ?_
        refine V_iconst (pc := 44) (v := 0) X (th_da dtX4_proof 26 rfl) (by decide) ?_
        refine V_istore (pc := 45) (ls2 := [.ref 0, .int x1, .int x2, .int v4, .int 0, .int 0, .null, .null]) X (th_da dtX4_proof 27 rfl) (Nat.le_of_ble_eq_true rfl) rfl rfl ?_
        refine V_iconst (pc := 47) (v := 0) X (th_da dtX4_proof 28 rfl) (by decide) ?_
        refine V_istore (pc := 48) (ls2 := [.ref 0, .int x1, .int x2, .int v4, .int 0, .int 0, .int 0, .null]) X (th_da dtX4_proof 29 rfl) (Nat.le_of_ble_eq_true rfl) rfl rfl ?_
        refine V_iconst (pc := 50) (v := 0) X (th_da dtX4_proof 30 rfl) (by decide) ?_
        refine V_istore (pc := 51) (ls2 := [.ref 0, .int x1, .int x2, .int v4, .int 0, .int 0, .int 0, .int 0]) X (th_da dtX4_proof 31 rfl) (Nat.le_of_ble_eq_true rfl) rfl rfl ?_
        exact tX4_proof_c53 X _ _ _ _ _ _ _ _ _ hf
end
def fX4_hasFlows_c4 : Nat → Int32 → Int32 → Int32 → th_H → Option (Int32 × th_H)
  | 0, _, _, _, _ => none
  | n + 1, y1, y2, y3, h =>
    if (y3 < 20 : Prop) then
      if (y2 = 0 : Prop) then
        th_bd (fX4_goesOver y3 y1 h) fun u3 h3 =>
        if (u3 = 0 : Prop) then
          fX4_hasFlows_c4 n y1 0 (y3 + 1) h3
        else
          fX4_hasFlows_c4 n y1 1 (y3 + 1) h3
      else
        fX4_hasFlows_c4 n y1 1 (y3 + 1) h
    else
      th_gb y2 <|
      some (y2, h)
def fX4_hasFlows (x1 : Int32) (h : th_H) : Option (Int32 × th_H) :=
  fX4_hasFlows_c4 1000 x1 0 0 h
def tbX4_hasFlows : List (Nat × Instr × Nat) := [(0, .iconst 0, 1), (1, .istore_n 2, 1), (2, .iconst 0, 1), (3, .istore_n 3, 1), (4, .iload_n 3, 1), (5, .bipush 20, 2), (7, .if_icmp .ge 28, 3), (10, .iload_n 2, 1), (11, .ifCond .ne 12, 3), (14, .aload_n 0, 1), (15, .iload_n 3, 1), (16, .iload_n 1, 1), (17, .invokevirtual 75, 3), (20, .ifCond .eq 7, 3), (23, .iconst 1, 1), (24, .goto 4, 3), (27, .iconst 0, 1), (28, .istore_n 2, 1), (29, .iinc 3 1, 3), (32, .goto (-28), 3), (35, .iload_n 2, 1), (36, .ireturn, 1)]
theorem dtX4_hasFlows : th_dec cX4_hasFlows tbX4_hasFlows = true := by decide +kernel
section
variable {p0 : Program} {l : Launch} {e : Env} {s : State} {m : MethodId} {args : Array Value} {below : List Frame} {meth : Method} {c : Code} {D : va_G} {cI cZ : ClassId} {ad : Nat → Nat} {rr : Int32} {hh : th_H}
set_option maxHeartbeats 4000000 in
set_option maxRecDepth 100000 in
theorem tX4_hasFlows_c4 (X : th_X p0 s m args meth c D cI cZ ad LM 4 RX4 cX4_hasFlows (some .boolean)) : ∀ (n : Nat) (y1 : Int32) (y2 : Int32) (y3 : Int32) (h : th_H), fX4_hasFlows_c4 n y1 y2 y3 h = some (rr, hh) → th_V p0 l e { frames := 2, cells := 0, slots := 0, locals := 42 } s m args below meth c D cI cZ ad LM 4 (some (.int rr)) hh 4 [.ref 0, .int y1, .int y2, .int y3] [] h := by
  intro n
  induction n with
  | zero => intro y1 y2 y3 h hf; cases hf
  | succ n ih =>
    intro y1 y2 y3 h hf
    rw [fX4_hasFlows_c4] at hf
    refine V_iload_n (pc := 4) X (th_da dtX4_hasFlows 4 rfl) rfl ?_
    refine V_bipush (pc := 5) (v := 20) X (th_da dtX4_hasFlows 5 rfl) (by decide) ?_
    refine V_icmp_ge (pc := 7) (tgt := 35) X (th_da dtX4_hasFlows 6 rfl) (by decide) (fun c1 => ?_) (fun c1 => ?_)
    · rw [if_pos c1] at hf
      refine V_iload_n (pc := 10) X (th_da dtX4_hasFlows 7 rfl) rfl ?_
      refine V_if_ne (pc := 11) (tgt := 23) X (th_da dtX4_hasFlows 8 rfl) (by decide) (fun c2 => ?_) (fun c2 => ?_)
      · rw [if_pos c2] at hf
        refine V_aload_n (pc := 14) X (th_da dtX4_hasFlows 9 rfl) rfl ?_
        refine V_iload_n (pc := 15) X (th_da dtX4_hasFlows 10 rfl) rfl ?_
        refine V_iload_n (pc := 16) X (th_da dtX4_hasFlows 11 rfl) rfl ?_
        obtain ⟨u3, h3, e3, hf⟩ := th_bd_some hf
        refine V_callVi (pc := 17) (q := 0) (As := [.int y3, .int y1]) X (th_da dtX4_hasFlows 12 rfl) (mX4_goesOver l _ _ _ _ _ e3) wcd_X4_goesOver wml_X4_75 wim_X4_goesOver wse_X4_goesOver win_X4_goesOver hd_X4_goesOver ⟨Nat.le_of_ble_eq_true rfl, Nat.le_of_ble_eq_true rfl⟩ (Nat.le_of_ble_eq_true rfl) rfl rfl rfl ?_
        refine V_if_eq (pc := 20) (tgt := 27) X (th_da dtX4_hasFlows 13 rfl) (by decide) (fun c4 => ?_) (fun c4 => ?_)
        · rw [if_pos c4] at hf
          refine V_iconst (pc := 27) (v := 0) X (th_da dtX4_hasFlows 16 rfl) (by decide) ?_
          refine V_istore_n (pc := 28) (ls2 := [.ref 0, .int y1, .int 0, .int y3]) X (th_da dtX4_hasFlows 17 rfl) (Nat.le_of_ble_eq_true rfl) rfl rfl ?_
          refine V_iinc (pc := 29) (v := y3 + 1) (ls2 := [.ref 0, .int y1, .int 0, .int (y3 + 1)]) X (th_da dtX4_hasFlows 18 rfl) rfl rfl (Nat.le_of_ble_eq_true rfl) rfl rfl ?_
          refine V_goto (pc := 32) (tgt := 4) X (th_da dtX4_hasFlows 19 rfl) (by decide) ?_
          exact ih _ _ _ _ hf
        · rw [if_neg c4] at hf
          refine V_iconst (pc := 23) (v := 1) X (th_da dtX4_hasFlows 14 rfl) (by decide) ?_
          refine V_goto (pc := 24) (tgt := 28) X (th_da dtX4_hasFlows 15 rfl) (by decide) ?_
          refine V_istore_n (pc := 28) (ls2 := [.ref 0, .int y1, .int 1, .int y3]) X (th_da dtX4_hasFlows 17 rfl) (Nat.le_of_ble_eq_true rfl) rfl rfl ?_
          refine V_iinc (pc := 29) (v := y3 + 1) (ls2 := [.ref 0, .int y1, .int 1, .int (y3 + 1)]) X (th_da dtX4_hasFlows 18 rfl) rfl rfl (Nat.le_of_ble_eq_true rfl) rfl rfl ?_
          refine V_goto (pc := 32) (tgt := 4) X (th_da dtX4_hasFlows 19 rfl) (by decide) ?_
          exact ih _ _ _ _ hf
      · rw [if_neg c2] at hf
        refine V_iconst (pc := 23) (v := 1) X (th_da dtX4_hasFlows 14 rfl) (by decide) ?_
        refine V_goto (pc := 24) (tgt := 28) X (th_da dtX4_hasFlows 15 rfl) (by decide) ?_
        refine V_istore_n (pc := 28) (ls2 := [.ref 0, .int y1, .int 1, .int y3]) X (th_da dtX4_hasFlows 17 rfl) (Nat.le_of_ble_eq_true rfl) rfl rfl ?_
        refine V_iinc (pc := 29) (v := y3 + 1) (ls2 := [.ref 0, .int y1, .int 1, .int (y3 + 1)]) X (th_da dtX4_hasFlows 18 rfl) rfl rfl (Nat.le_of_ble_eq_true rfl) rfl rfl ?_
        refine V_goto (pc := 32) (tgt := 4) X (th_da dtX4_hasFlows 19 rfl) (by decide) ?_
        exact ih _ _ _ _ hf
    · rw [if_neg c1] at hf
      refine V_iload_n (pc := 35) X (th_da dtX4_hasFlows 20 rfl) rfl ?_
      obtain ⟨g5, hf⟩ := th_gb_some hf
      exact V_zretF (pc := 36) X (th_da dtX4_hasFlows 21 rfl) g5 hf
set_option maxHeartbeats 4000000 in
set_option maxRecDepth 100000 in
theorem mX4_hasFlows (l : Launch) (x1 : Int32) (h : th_H) (rr : Int32) (hh : th_H) (hf : fX4_hasFlows x1 h = some (rr, hh)) : th_MI l LM yX4_hasFlows cX4_hasFlows 4 (some .boolean) 2 42 [.ref 0, .int x1] h (some (.int rr)) hh := by
  refine th_MI_of (ls := [.ref 0, .int x1, .null, .null]) RX4 rfl rfl rfl (Nat.le_of_ble_eq_true rfl) ?_
  intro p0 e s m args below meth c D cI cZ ad X
  unfold fX4_hasFlows at hf
  refine V_iconst (pc := 0) (v := 0) X (th_da dtX4_hasFlows 0 rfl) (by decide) ?_
  refine V_istore_n (pc := 1) (ls2 := [.ref 0, .int x1, .int 0, .null]) X (th_da dtX4_hasFlows 1 rfl) (Nat.le_of_ble_eq_true rfl) rfl rfl ?_
  refine V_iconst (pc := 2) (v := 0) X (th_da dtX4_hasFlows 2 rfl) (by decide) ?_
  refine V_istore_n (pc := 3) (ls2 := [.ref 0, .int x1, .int 0, .int 0]) X (th_da dtX4_hasFlows 3 rfl) (Nat.le_of_ble_eq_true rfl) rfl rfl ?_
  exact tX4_hasFlows_c4 X _ _ _ _ _ hf
end
def fX4_leftOf (x1 : Int32) (h : th_H) : Option (Int32 × th_H) :=
  th_rd h 2 643 ((3 : Int32) + x1) fun v1 =>
  th_bd (fX4_usedOf x1 h) fun u2 h2 =>
  some (v1 - u2, h2)
def tbX4_leftOf : List (Nat × Instr × Nat) := [(0, .aload_n 0, 1), (1, .getfield 15, 3), (4, .iconst 3, 1), (5, .iload_n 1, 1), (6, .iadd, 1), (7, .iaload, 1), (8, .aload_n 0, 1), (9, .iload_n 1, 1), (10, .invokevirtual 210, 3), (13, .isub, 1), (14, .ireturn, 1)]
theorem dtX4_leftOf : th_dec cX4_leftOf tbX4_leftOf = true := by decide +kernel
section
variable {p0 : Program} {l : Launch} {e : Env} {s : State} {m : MethodId} {args : Array Value} {below : List Frame} {meth : Method} {c : Code} {D : va_G} {cI cZ : ClassId} {ad : Nat → Nat} {rr : Int32} {hh : th_H}
set_option maxHeartbeats 4000000 in
set_option maxRecDepth 100000 in
theorem mX4_leftOf (l : Launch) (x1 : Int32) (h : th_H) (rr : Int32) (hh : th_H) (hf : fX4_leftOf x1 h = some (rr, hh)) : th_MI l LM yX4_leftOf cX4_leftOf 2 (some .int) 4 87 [.ref 0, .int x1] h (some (.int rr)) hh := by
  refine th_MI_of (ls := [.ref 0, .int x1]) RX4 rfl rfl rfl (Nat.le_of_ble_eq_true rfl) ?_
  intro p0 e s m args below meth c D cI cZ ad X
  unfold fX4_leftOf at hf
  refine V_aload_n (pc := 0) X (th_da dtX4_leftOf 0 rfl) rfl ?_
  refine V_getR (pc := 1) (j := 2) (t := 2) X (th_da dtX4_leftOf 1 rfl) wfl_X4_15 iX4 rfl rfl (Nat.le_of_ble_eq_true rfl) rfl ?_
  refine V_iconst (pc := 4) (v := 3) X (th_da dtX4_leftOf 2 rfl) (by decide) ?_
  refine V_iload_n (pc := 5) X (th_da dtX4_leftOf 3 rfl) rfl ?_
  refine V_iadd (pc := 6) X (th_da dtX4_leftOf 4 rfl) ?_
  obtain ⟨v1, e1, g1, hf⟩ := th_rd_some hf
  refine V_iald (pc := 7) X (th_da dtX4_leftOf 5 rfl) rfl g1 e1 ?_
  refine V_aload_n (pc := 8) X (th_da dtX4_leftOf 6 rfl) rfl ?_
  refine V_iload_n (pc := 9) X (th_da dtX4_leftOf 7 rfl) rfl ?_
  obtain ⟨u2, h2, e2, hf⟩ := th_bd_some hf
  refine V_callVi (pc := 10) (q := 0) (As := [.int x1]) X (th_da dtX4_leftOf 8 rfl) (mX4_usedOf l _ _ _ _ e2) wcd_X4_usedOf wml_X4_210 wim_X4_usedOf wse_X4_usedOf win_X4_usedOf hd_X4_usedOf ⟨Nat.le_of_ble_eq_true rfl, Nat.le_of_ble_eq_true rfl⟩ (Nat.le_of_ble_eq_true rfl) rfl rfl rfl ?_
  refine V_isub (pc := 13) X (th_da dtX4_leftOf 9 rfl) ?_
  exact V_iretF (pc := 14) X (th_da dtX4_leftOf 10 rfl) hf
end
def fX4_fullest_c94 (k11 : Int32 → Int32 → th_H → Option (Int32 × th_H)) (y1 : Int32) (y2 : Int32) (y3 : Int32) (h : th_H) : Option (Int32 × th_H) :=
  th_bd (fX4_hasFlows y2 h) fun u1 h1 =>
  if (u1 = 0 : Prop) then
    k11 y1 (y2 + 1) h1
  else
    if (y3 = y1 : Prop) then
      some (y2, h1)
    else
      k11 y1 (y2 + 1) h1
def fX4_fullest_c22 (k11 : Int32 → Int32 → th_H → Option (Int32 × th_H)) : Nat → Int32 → Int32 → Int32 → Int32 → th_H → Option (Int32 × th_H)
  | 0, _, _, _, _, _ => none
  | n + 1, y1, y2, y3, y4, h =>
    if (y4 < 10 : Prop) then
      th_bd (fX4_hasFlows y2 h) fun u2 h2 =>
      if (u2 = 0 : Prop) then
        fX4_fullest_c94 k11 y1 y2 y3 h2
      else
        th_bd (fX4_hasFlows y4 h2) fun u4 h4 =>
        if (u4 = 0 : Prop) then
          fX4_fullest_c22 k11 n y1 y2 (y3 + 0) (y4 + 1) h4
        else
          th_bd (fX4_leftOf y4 h4) fun u6 h6 =>
          th_bd (fX4_leftOf y2 h6) fun u7 h7 =>
          if (u6 < u7 : Prop) then
            fX4_fullest_c22 k11 n y1 y2 (y3 + 1) (y4 + 1) h7
          else
            th_bd (fX4_leftOf y4 h7) fun u9 h9 =>
            th_bd (fX4_leftOf y2 h9) fun u10 h10 =>
            if (u9 = u10 : Prop) then
              if (y4 < y2 : Prop) then
                fX4_fullest_c22 k11 n y1 y2 (y3 + 1) (y4 + 1) h10
              else
                fX4_fullest_c22 k11 n y1 y2 (y3 + 0) (y4 + 1) h10
            else
              fX4_fullest_c22 k11 n y1 y2 (y3 + 0) (y4 + 1) h10
    else
      fX4_fullest_c94 k11 y1 y2 y3 h
def fX4_fullest_c11 : Nat → Int32 → Int32 → th_H → Option (Int32 × th_H)
  | 0, _, _, _ => none
  | n + 1, y1, y2, h =>
    if (y2 < 10 : Prop) then
      fX4_fullest_c22 (fX4_fullest_c11 n) 1000 y1 y2 0 0 h
    else
      some ((-1), h)
def fX4_fullest (x1 : Int32) (h : th_H) : Option (Int32 × th_H) :=
  th_st (th_up h 0 0 0) fun h1 =>
  th_bd (fX4_layFair h1) fun _u2 h2 =>
  fX4_fullest_c11 1000 x1 0 h2
def tbX4_fullest : List (Nat × Instr × Nat) := [(0, .aload_n 0, 1), (1, .iconst 0, 1), (2, .putfield 55, 3), (5, .aload_n 0, 1), (6, .invokevirtual 207, 3), (9, .iconst 0, 1), (10, .istore_n 2, 1), (11, .iload_n 2, 1), (12, .bipush 10, 2), (14, .if_icmp .ge 101, 3), (17, .iconst 0, 1), (18, .istore_n 3, 1), (19, .iconst 0, 1), (20, .istore 4, 2), (22, .iload 4, 2), (24, .bipush 10, 2), (26, .if_icmp .ge 68, 3), (29, .aload_n 0, 1), (30, .iload_n 2, 1), (31, .invokevirtual 221, 3), (34, .ifCond .eq 60, 3), (37, .iload_n 3, 1), (38, .aload_n 0, 1), (39, .iload 4, 2), (41, .invokevirtual 221, 3), (44, .ifCond .eq 41, 3), (47, .aload_n 0, 1), (48, .iload 4, 2), (50, .invokevirtual 224, 3), (53, .aload_n 0, 1), (54, .iload_n 2, 1), (55, .invokevirtual 224, 3), (58, .if_icmp .lt 23, 3), (61, .aload_n 0, 1), (62, .iload 4, 2), (64, .invokevirtual 224, 3), (67, .aload_n 0, 1), (68, .iload_n 2, 1), (69, .invokevirtual 224, 3), (72, .if_icmp .ne 13, 3), (75, .iload 4, 2), (77, .iload_n 2, 1), (78, .if_icmp .ge 7, 3), (81, .iconst 1, 1), (82, .goto 4, 3), (85, .iconst 0, 1), (86, .iadd, 1), (87, .istore_n 3, 1), (88, .iinc 4 1, 3), (91, .goto (-69), 3), (94, .aload_n 0, 1), (95, .iload_n 2, 1), (96, .invokevirtual 221, 3), (99, .ifCond .eq 10, 3), (102, .iload_n 3, 1), (103, .iload_n 1, 1), (104, .if_icmp .ne 5, 3), (107, .iload_n 2, 1), (108, .ireturn, 1), (109, .iinc 2 1, 3), (112, .goto (-101), 3), (115, .iconst (-1), 1), (116, .ireturn, 1)]
theorem dtX4_fullest : th_dec cX4_fullest tbX4_fullest = true := by decide +kernel
section
variable {p0 : Program} {l : Launch} {e : Env} {s : State} {m : MethodId} {args : Array Value} {below : List Frame} {meth : Method} {c : Code} {D : va_G} {cI cZ : ClassId} {ad : Nat → Nat} {rr : Int32} {hh : th_H}
set_option maxHeartbeats 4000000 in
set_option maxRecDepth 100000 in
theorem tX4_fullest_c94 (X : th_X p0 s m args meth c D cI cZ ad LM 5 RX4 cX4_fullest (some .int)) (k11 : Int32 → Int32 → th_H → Option (Int32 × th_H)) (hk11 : ∀ (y1 : Int32) (y2 : Int32) (h : th_H), k11 y1 y2 h = some (rr, hh) → th_V p0 l e { frames := 5, cells := 0, slots := 0, locals := 115 } s m args below meth c D cI cZ ad LM 5 (some (.int rr)) hh 11 [.ref 0, .int y1, .int y2, .null, .null] [] h) (y1 : Int32) (y2 : Int32) (y3 : Int32) (h : th_H) (hf : fX4_fullest_c94 k11 y1 y2 y3 h = some (rr, hh)) : th_V p0 l e { frames := 5, cells := 0, slots := 0, locals := 115 } s m args below meth c D cI cZ ad LM 5 (some (.int rr)) hh 94 [.ref 0, .int y1, .int y2, .int y3, .null] [] h := by
  unfold fX4_fullest_c94 at hf
  refine V_aload_n (pc := 94) X (th_da dtX4_fullest 50 rfl) rfl ?_
  refine V_iload_n (pc := 95) X (th_da dtX4_fullest 51 rfl) rfl ?_
  obtain ⟨u1, h1, e1, hf⟩ := th_bd_some hf
  refine V_callVi (pc := 96) (q := 0) (As := [.int y2]) X (th_da dtX4_fullest 52 rfl) (mX4_hasFlows l _ _ _ _ e1) wcd_X4_hasFlows wml_X4_221 wim_X4_hasFlows wse_X4_hasFlows win_X4_hasFlows hd_X4_hasFlows ⟨Nat.le_of_ble_eq_true rfl, Nat.le_of_ble_eq_true rfl⟩ (Nat.le_of_ble_eq_true rfl) rfl rfl rfl ?_
  refine V_if_eq (pc := 99) (tgt := 109) X (th_da dtX4_fullest 53 rfl) (by decide) (fun c2 => ?_) (fun c2 => ?_)
  · rw [if_pos c2] at hf
    refine V_iinc (pc := 109) (v := y2 + 1) (ls2 := [.ref 0, .int y1, .int (y2 + 1), .int y3, .null]) X (th_da dtX4_fullest 59 rfl) rfl rfl (Nat.le_of_ble_eq_true rfl) rfl rfl ?_
    refine V_goto (pc := 112) (tgt := 11) X (th_da dtX4_fullest 60 rfl) (by decide) ?_
    refine V_mask [true, true, true, false, false] (ls2 := [.ref 0, .int y1, .int (y2 + 1), .null, .null]) rfl ?_
    exact hk11 _ _ _ hf
  · rw [if_neg c2] at hf
    refine V_iload_n (pc := 102) X (th_da dtX4_fullest 54 rfl) rfl ?_
    refine V_iload_n (pc := 103) X (th_da dtX4_fullest 55 rfl) rfl ?_
    refine V_icmp_ne (pc := 104) (tgt := 109) X (th_da dtX4_fullest 56 rfl) (by decide) (fun c3 => ?_) (fun c3 => ?_)
    · rw [if_pos c3] at hf
      refine V_iload_n (pc := 107) X (th_da dtX4_fullest 57 rfl) rfl ?_
      exact V_iretF (pc := 108) X (th_da dtX4_fullest 58 rfl) hf
    · rw [if_neg c3] at hf
      refine V_iinc (pc := 109) (v := y2 + 1) (ls2 := [.ref 0, .int y1, .int (y2 + 1), .int y3, .null]) X (th_da dtX4_fullest 59 rfl) rfl rfl (Nat.le_of_ble_eq_true rfl) rfl rfl ?_
      refine V_goto (pc := 112) (tgt := 11) X (th_da dtX4_fullest 60 rfl) (by decide) ?_
      refine V_mask [true, true, true, false, false] (ls2 := [.ref 0, .int y1, .int (y2 + 1), .null, .null]) rfl ?_
      exact hk11 _ _ _ hf
set_option maxHeartbeats 4000000 in
set_option maxRecDepth 100000 in
theorem tX4_fullest_c22 (X : th_X p0 s m args meth c D cI cZ ad LM 5 RX4 cX4_fullest (some .int)) (k11 : Int32 → Int32 → th_H → Option (Int32 × th_H)) (hk11 : ∀ (y1 : Int32) (y2 : Int32) (h : th_H), k11 y1 y2 h = some (rr, hh) → th_V p0 l e { frames := 5, cells := 0, slots := 0, locals := 115 } s m args below meth c D cI cZ ad LM 5 (some (.int rr)) hh 11 [.ref 0, .int y1, .int y2, .null, .null] [] h) : ∀ (n : Nat) (y1 : Int32) (y2 : Int32) (y3 : Int32) (y4 : Int32) (h : th_H), fX4_fullest_c22 k11 n y1 y2 y3 y4 h = some (rr, hh) → th_V p0 l e { frames := 5, cells := 0, slots := 0, locals := 115 } s m args below meth c D cI cZ ad LM 5 (some (.int rr)) hh 22 [.ref 0, .int y1, .int y2, .int y3, .int y4] [] h := by
  intro n
  induction n with
  | zero => intro y1 y2 y3 y4 h hf; cases hf
  | succ n ih =>
    intro y1 y2 y3 y4 h hf
    rw [fX4_fullest_c22] at hf
    refine V_iload (pc := 22) X (th_da dtX4_fullest 14 rfl) rfl ?_
    refine V_bipush (pc := 24) (v := 10) X (th_da dtX4_fullest 15 rfl) (by decide) ?_
    refine V_icmp_ge (pc := 26) (tgt := 94) X (th_da dtX4_fullest 16 rfl) (by decide) (fun c1 => ?_) (fun c1 => ?_)
    · rw [if_pos c1] at hf
      refine V_aload_n (pc := 29) X (th_da dtX4_fullest 17 rfl) rfl ?_
      refine V_iload_n (pc := 30) X (th_da dtX4_fullest 18 rfl) rfl ?_
      obtain ⟨u2, h2, e2, hf⟩ := th_bd_some hf
      refine V_callVi (pc := 31) (q := 0) (As := [.int y2]) X (th_da dtX4_fullest 19 rfl) (mX4_hasFlows l _ _ _ _ e2) wcd_X4_hasFlows wml_X4_221 wim_X4_hasFlows wse_X4_hasFlows win_X4_hasFlows hd_X4_hasFlows ⟨Nat.le_of_ble_eq_true rfl, Nat.le_of_ble_eq_true rfl⟩ (Nat.le_of_ble_eq_true rfl) rfl rfl rfl ?_
      refine V_if_eq (pc := 34) (tgt := 94) X (th_da dtX4_fullest 20 rfl) (by decide) (fun c3 => ?_) (fun c3 => ?_)
      · rw [if_pos c3] at hf
        refine V_mask [true, true, true, true, false] (ls2 := [.ref 0, .int y1, .int y2, .int y3, .null]) rfl ?_
        exact tX4_fullest_c94 X _ hk11 _ _ _ _ hf
      · rw [if_neg c3] at hf
        refine V_iload_n (pc := 37) X (th_da dtX4_fullest 21 rfl) rfl ?_
        refine V_aload_n (pc := 38) X (th_da dtX4_fullest 22 rfl) rfl ?_
        refine V_iload (pc := 39) X (th_da dtX4_fullest 23 rfl) rfl ?_
        obtain ⟨u4, h4, e4, hf⟩ := th_bd_some hf
        refine V_callVi (pc := 41) (q := 0) (As := [.int y4]) X (th_da dtX4_fullest 24 rfl) (mX4_hasFlows l _ _ _ _ e4) wcd_X4_hasFlows wml_X4_221 wim_X4_hasFlows wse_X4_hasFlows win_X4_hasFlows hd_X4_hasFlows ⟨Nat.le_of_ble_eq_true rfl, Nat.le_of_ble_eq_true rfl⟩ (Nat.le_of_ble_eq_true rfl) rfl rfl rfl ?_
        refine V_if_eq (pc := 44) (tgt := 85) X (th_da dtX4_fullest 25 rfl) (by decide) (fun c5 => ?_) (fun c5 => ?_)
        · rw [if_pos c5] at hf
          refine V_iconst (pc := 85) (v := 0) X (th_da dtX4_fullest 45 rfl) (by decide) ?_
          refine V_iadd (pc := 86) X (th_da dtX4_fullest 46 rfl) ?_
          refine V_istore_n (pc := 87) (ls2 := [.ref 0, .int y1, .int y2, .int (y3 + 0), .int y4]) X (th_da dtX4_fullest 47 rfl) (Nat.le_of_ble_eq_true rfl) rfl rfl ?_
          refine V_iinc (pc := 88) (v := y4 + 1) (ls2 := [.ref 0, .int y1, .int y2, .int (y3 + 0), .int (y4 + 1)]) X (th_da dtX4_fullest 48 rfl) rfl rfl (Nat.le_of_ble_eq_true rfl) rfl rfl ?_
          refine V_goto (pc := 91) (tgt := 22) X (th_da dtX4_fullest 49 rfl) (by decide) ?_
          exact ih _ _ _ _ _ hf
        · rw [if_neg c5] at hf
          refine V_aload_n (pc := 47) X (th_da dtX4_fullest 26 rfl) rfl ?_
          refine V_iload (pc := 48) X (th_da dtX4_fullest 27 rfl) rfl ?_
          obtain ⟨u6, h6, e6, hf⟩ := th_bd_some hf
          refine V_callVi (pc := 50) (q := 0) (As := [.int y4]) X (th_da dtX4_fullest 28 rfl) (mX4_leftOf l _ _ _ _ e6) wcd_X4_leftOf wml_X4_224 wim_X4_leftOf wse_X4_leftOf win_X4_leftOf hd_X4_leftOf ⟨Nat.le_of_ble_eq_true rfl, Nat.le_of_ble_eq_true rfl⟩ (Nat.le_of_ble_eq_true rfl) rfl rfl rfl ?_
          refine V_aload_n (pc := 53) X (th_da dtX4_fullest 29 rfl) rfl ?_
          refine V_iload_n (pc := 54) X (th_da dtX4_fullest 30 rfl) rfl ?_
          obtain ⟨u7, h7, e7, hf⟩ := th_bd_some hf
          refine V_callVi (pc := 55) (q := 0) (As := [.int y2]) X (th_da dtX4_fullest 31 rfl) (mX4_leftOf l _ _ _ _ e7) wcd_X4_leftOf wml_X4_224 wim_X4_leftOf wse_X4_leftOf win_X4_leftOf hd_X4_leftOf ⟨Nat.le_of_ble_eq_true rfl, Nat.le_of_ble_eq_true rfl⟩ (Nat.le_of_ble_eq_true rfl) rfl rfl rfl ?_
          refine V_icmp_lt (pc := 58) (tgt := 81) X (th_da dtX4_fullest 32 rfl) (by decide) (fun c8 => ?_) (fun c8 => ?_)
          · rw [if_pos c8] at hf
            refine V_iconst (pc := 81) (v := 1) X (th_da dtX4_fullest 43 rfl) (by decide) ?_
            refine V_goto (pc := 82) (tgt := 86) X (th_da dtX4_fullest 44 rfl) (by decide) ?_
            refine V_iadd (pc := 86) X (th_da dtX4_fullest 46 rfl) ?_
            refine V_istore_n (pc := 87) (ls2 := [.ref 0, .int y1, .int y2, .int (y3 + 1), .int y4]) X (th_da dtX4_fullest 47 rfl) (Nat.le_of_ble_eq_true rfl) rfl rfl ?_
            refine V_iinc (pc := 88) (v := y4 + 1) (ls2 := [.ref 0, .int y1, .int y2, .int (y3 + 1), .int (y4 + 1)]) X (th_da dtX4_fullest 48 rfl) rfl rfl (Nat.le_of_ble_eq_true rfl) rfl rfl ?_
            refine V_goto (pc := 91) (tgt := 22) X (th_da dtX4_fullest 49 rfl) (by decide) ?_
            exact ih _ _ _ _ _ hf
          · rw [if_neg c8] at hf
            refine V_aload_n (pc := 61) X (th_da dtX4_fullest 33 rfl) rfl ?_
            refine V_iload (pc := 62) X (th_da dtX4_fullest 34 rfl) rfl ?_
            obtain ⟨u9, h9, e9, hf⟩ := th_bd_some hf
            refine V_callVi (pc := 64) (q := 0) (As := [.int y4]) X (th_da dtX4_fullest 35 rfl) (mX4_leftOf l _ _ _ _ e9) wcd_X4_leftOf wml_X4_224 wim_X4_leftOf wse_X4_leftOf win_X4_leftOf hd_X4_leftOf ⟨Nat.le_of_ble_eq_true rfl, Nat.le_of_ble_eq_true rfl⟩ (Nat.le_of_ble_eq_true rfl) rfl rfl rfl ?_
            refine V_aload_n (pc := 67) X (th_da dtX4_fullest 36 rfl) rfl ?_
            refine V_iload_n (pc := 68) X (th_da dtX4_fullest 37 rfl) rfl ?_
            obtain ⟨u10, h10, e10, hf⟩ := th_bd_some hf
            refine V_callVi (pc := 69) (q := 0) (As := [.int y2]) X (th_da dtX4_fullest 38 rfl) (mX4_leftOf l _ _ _ _ e10) wcd_X4_leftOf wml_X4_224 wim_X4_leftOf wse_X4_leftOf win_X4_leftOf hd_X4_leftOf ⟨Nat.le_of_ble_eq_true rfl, Nat.le_of_ble_eq_true rfl⟩ (Nat.le_of_ble_eq_true rfl) rfl rfl rfl ?_
            refine V_icmp_ne (pc := 72) (tgt := 85) X (th_da dtX4_fullest 39 rfl) (by decide) (fun c11 => ?_) (fun c11 => ?_)
            · rw [if_pos c11] at hf
              refine V_iload (pc := 75) X (th_da dtX4_fullest 40 rfl) rfl ?_
              refine V_iload_n (pc := 77) X (th_da dtX4_fullest 41 rfl) rfl ?_
              refine V_icmp_ge (pc := 78) (tgt := 85) X (th_da dtX4_fullest 42 rfl) (by decide) (fun c12 => ?_) (fun c12 => ?_)
              · rw [if_pos c12] at hf
                refine V_iconst (pc := 81) (v := 1) X (th_da dtX4_fullest 43 rfl) (by decide) ?_
                refine V_goto (pc := 82) (tgt := 86) X (th_da dtX4_fullest 44 rfl) (by decide) ?_
                refine V_iadd (pc := 86) X (th_da dtX4_fullest 46 rfl) ?_
                refine V_istore_n (pc := 87) (ls2 := [.ref 0, .int y1, .int y2, .int (y3 + 1), .int y4]) X (th_da dtX4_fullest 47 rfl) (Nat.le_of_ble_eq_true rfl) rfl rfl ?_
                refine V_iinc (pc := 88) (v := y4 + 1) (ls2 := [.ref 0, .int y1, .int y2, .int (y3 + 1), .int (y4 + 1)]) X (th_da dtX4_fullest 48 rfl) rfl rfl (Nat.le_of_ble_eq_true rfl) rfl rfl ?_
                refine V_goto (pc := 91) (tgt := 22) X (th_da dtX4_fullest 49 rfl) (by decide) ?_
                exact ih _ _ _ _ _ hf
              · rw [if_neg c12] at hf
                refine V_iconst (pc := 85) (v := 0) X (th_da dtX4_fullest 45 rfl) (by decide) ?_
                refine V_iadd (pc := 86) X (th_da dtX4_fullest 46 rfl) ?_
                refine V_istore_n (pc := 87) (ls2 := [.ref 0, .int y1, .int y2, .int (y3 + 0), .int y4]) X (th_da dtX4_fullest 47 rfl) (Nat.le_of_ble_eq_true rfl) rfl rfl ?_
                refine V_iinc (pc := 88) (v := y4 + 1) (ls2 := [.ref 0, .int y1, .int y2, .int (y3 + 0), .int (y4 + 1)]) X (th_da dtX4_fullest 48 rfl) rfl rfl (Nat.le_of_ble_eq_true rfl) rfl rfl ?_
                refine V_goto (pc := 91) (tgt := 22) X (th_da dtX4_fullest 49 rfl) (by decide) ?_
                exact ih _ _ _ _ _ hf
            · rw [if_neg c11] at hf
              refine V_iconst (pc := 85) (v := 0) X (th_da dtX4_fullest 45 rfl) (by decide) ?_
              refine V_iadd (pc := 86) X (th_da dtX4_fullest 46 rfl) ?_
              refine V_istore_n (pc := 87) (ls2 := [.ref 0, .int y1, .int y2, .int (y3 + 0), .int y4]) X (th_da dtX4_fullest 47 rfl) (Nat.le_of_ble_eq_true rfl) rfl rfl ?_
              refine V_iinc (pc := 88) (v := y4 + 1) (ls2 := [.ref 0, .int y1, .int y2, .int (y3 + 0), .int (y4 + 1)]) X (th_da dtX4_fullest 48 rfl) rfl rfl (Nat.le_of_ble_eq_true rfl) rfl rfl ?_
              refine V_goto (pc := 91) (tgt := 22) X (th_da dtX4_fullest 49 rfl) (by decide) ?_
              exact ih _ _ _ _ _ hf
    · rw [if_neg c1] at hf
      refine V_mask [true, true, true, true, false] (ls2 := [.ref 0, .int y1, .int y2, .int y3, .null]) rfl ?_
      exact tX4_fullest_c94 X _ hk11 _ _ _ _ hf
set_option maxHeartbeats 4000000 in
set_option maxRecDepth 100000 in
theorem tX4_fullest_c11 (X : th_X p0 s m args meth c D cI cZ ad LM 5 RX4 cX4_fullest (some .int)) : ∀ (n : Nat) (y1 : Int32) (y2 : Int32) (h : th_H), fX4_fullest_c11 n y1 y2 h = some (rr, hh) → th_V p0 l e { frames := 5, cells := 0, slots := 0, locals := 115 } s m args below meth c D cI cZ ad LM 5 (some (.int rr)) hh 11 [.ref 0, .int y1, .int y2, .null, .null] [] h := by
  intro n
  induction n with
  | zero => intro y1 y2 h hf; cases hf
  | succ n ih =>
    intro y1 y2 h hf
    rw [fX4_fullest_c11] at hf
    refine V_iload_n (pc := 11) X (th_da dtX4_fullest 7 rfl) rfl ?_
    refine V_bipush (pc := 12) (v := 10) X (th_da dtX4_fullest 8 rfl) (by decide) ?_
    refine V_icmp_ge (pc := 14) (tgt := 115) X (th_da dtX4_fullest 9 rfl) (by decide) (fun c1 => ?_) (fun c1 => ?_)
    · rw [if_pos c1] at hf
      refine V_iconst (pc := 17) (v := 0) X (th_da dtX4_fullest 10 rfl) (by decide) ?_
      refine V_istore_n (pc := 18) (ls2 := [.ref 0, .int y1, .int y2, .int 0, .null]) X (th_da dtX4_fullest 11 rfl) (Nat.le_of_ble_eq_true rfl) rfl rfl ?_
      refine V_iconst (pc := 19) (v := 0) X (th_da dtX4_fullest 12 rfl) (by decide) ?_
      refine V_istore (pc := 20) (ls2 := [.ref 0, .int y1, .int y2, .int 0, .int 0]) X (th_da dtX4_fullest 13 rfl) (Nat.le_of_ble_eq_true rfl) rfl rfl ?_
      exact tX4_fullest_c22 X _ ih _ _ _ _ _ _ hf
    · rw [if_neg c1] at hf
      refine V_iconst (pc := 115) (v := (-1)) X (th_da dtX4_fullest 61 rfl) (by decide) ?_
      exact V_iretF (pc := 116) X (th_da dtX4_fullest 62 rfl) hf
set_option maxHeartbeats 4000000 in
set_option maxRecDepth 100000 in
theorem mX4_fullest (l : Launch) (x1 : Int32) (h : th_H) (rr : Int32) (hh : th_H) (hf : fX4_fullest x1 h = some (rr, hh)) : th_MI l LM yX4_fullest cX4_fullest 5 (some .int) 5 115 [.ref 0, .int x1] h (some (.int rr)) hh := by
  refine th_MI_of (ls := [.ref 0, .int x1, .null, .null, .null]) RX4 rfl rfl rfl (Nat.le_of_ble_eq_true rfl) ?_
  intro p0 e s m args below meth c D cI cZ ad X
  unfold fX4_fullest at hf
  refine V_aload_n (pc := 0) X (th_da dtX4_fullest 0 rfl) rfl ?_
  refine V_iconst (pc := 1) (v := 0) X (th_da dtX4_fullest 1 rfl) (by decide) ?_
  obtain ⟨h1, e1, hf⟩ := th_st_some hf
  refine V_putI (pc := 2) (j := 0) (ty := .int) X (th_da dtX4_fullest 2 rfl) wfl_X4_55 iX4 rfl rfl (Nat.le_of_ble_eq_true rfl) rfl tyX4 tyX4_ok nmX4 rfl (tyX4_ok 0 (Nat.le_of_ble_eq_true rfl)) rfl rfl e1 ?_
  refine V_aload_n (pc := 5) X (th_da dtX4_fullest 3 rfl) rfl ?_
  obtain ⟨u2, h2, e2, hf⟩ := th_bd_some hf
  refine V_callVv (pc := 6) (q := 0) (As := []) X (th_da dtX4_fullest 4 rfl) (mX4_layFair l _ _ _ e2) wcd_X4_layFair wml_X4_207 wim_X4_layFair wse_X4_layFair win_X4_layFair hd_X4_layFair ⟨Nat.le_of_ble_eq_true rfl, Nat.le_of_ble_eq_true rfl⟩ (Nat.le_of_ble_eq_true rfl) rfl rfl rfl ?_
  refine V_iconst (pc := 9) (v := 0) X (th_da dtX4_fullest 5 rfl) (by decide) ?_
  refine V_istore_n (pc := 10) (ls2 := [.ref 0, .int x1, .int 0, .null, .null]) X (th_da dtX4_fullest 6 rfl) (Nat.le_of_ble_eq_true rfl) rfl rfl ?_
  exact tX4_fullest_c11 X _ _ _ _ hf
end
def fX4_common_c6 : Nat → Int64 → Int64 → th_H → Option (Int64 × th_H)
  | 0, _, _, _ => none
  | n + 1, y4, y6, h =>
    if ((lg_cmp y6 0) = 0 : Prop) then
      some (y4, h)
    else
      th_dw y6 <|
      fX4_common_c6 n y6 (th_rml y4 y6) h
def fX4_common (x0 : Int64) (x2 : Int64) (h : th_H) : Option (Int64 × th_H) :=
  fX4_common_c6 1000 x0 x2 h
def tbX4_common : List (Nat × Instr × Nat) := [(0, .lload_n 0, 1), (1, .lstore 4, 2), (3, .lload_n 2, 1), (4, .lstore 6, 2), (6, .lload 6, 2), (8, .lconst 0, 1), (9, .lcmp, 1), (10, .ifCond .eq 21, 3), (13, .lload 4, 2), (15, .lload 6, 2), (17, .lrem, 1), (18, .lstore 8, 2), (20, .lload 6, 2), (22, .lstore 4, 2), (24, .lload 8, 2), (26, .lstore 6, 2), (28, .goto (-22), 3), (31, .lload 4, 2), (33, .lreturn, 1)]
theorem dtX4_common : th_dec cX4_common tbX4_common = true := by decide +kernel
section
variable {p0 : Program} {l : Launch} {e : Env} {s : State} {m : MethodId} {args : Array Value} {below : List Frame} {meth : Method} {c : Code} {D : va_G} {cI cZ : ClassId} {ad : Nat → Nat} {rr : Int64} {hh : th_H}
set_option maxHeartbeats 4000000 in
set_option maxRecDepth 100000 in
theorem tX4_common_c6 (X : th_X p0 s m args meth c D cI cZ ad LM 10 RX4 cX4_common (some .long)) : ∀ (n : Nat) (y4 : Int64) (y6 : Int64) (h : th_H), fX4_common_c6 n y4 y6 h = some (rr, hh) → th_V p0 l e { frames := 0, cells := 0, slots := 0, locals := 0 } s m args below meth c D cI cZ ad LM 10 (some (.long rr)) hh 6 [.null, .null, .null, .null, .long y4, .null, .long y6, .null, .null, .null] [] h := by
  intro n
  induction n with
  | zero => intro y4 y6 h hf; cases hf
  | succ n ih =>
    intro y4 y6 h hf
    rw [fX4_common_c6] at hf
    refine V_lload (pc := 6) X (th_da dtX4_common 4 rfl) rfl ?_
    refine V_lconst (pc := 8) (v := 0) X (th_da dtX4_common 5 rfl) (by decide) ?_
    refine V_lcmp (pc := 9) X (th_da dtX4_common 6 rfl) ?_
    refine V_if_eq (pc := 10) (tgt := 31) X (th_da dtX4_common 7 rfl) (by decide) (fun c1 => ?_) (fun c1 => ?_)
    · rw [if_pos c1] at hf
      refine V_lload (pc := 31) X (th_da dtX4_common 17 rfl) rfl ?_
      exact V_lretF (pc := 33) X (th_da dtX4_common 18 rfl) hf
    · rw [if_neg c1] at hf
      refine V_lload (pc := 13) X (th_da dtX4_common 8 rfl) rfl ?_
      refine V_lload (pc := 15) X (th_da dtX4_common 9 rfl) rfl ?_
      obtain ⟨g2, hf⟩ := th_dw_some hf
      refine V_lrem (pc := 17) X (th_da dtX4_common 10 rfl) g2 ?_
      refine V_lstore (pc := 18) (ls2 := [.null, .null, .null, .null, .long y4, .null, .long y6, .null, .long (th_rml y4 y6), .null]) X (th_da dtX4_common 11 rfl) (Nat.le_of_ble_eq_true rfl) rfl rfl ?_
      refine V_lload (pc := 20) X (th_da dtX4_common 12 rfl) rfl ?_
      refine V_lstore (pc := 22) (ls2 := [.null, .null, .null, .null, .long y6, .null, .long y6, .null, .long (th_rml y4 y6), .null]) X (th_da dtX4_common 13 rfl) (Nat.le_of_ble_eq_true rfl) rfl rfl ?_
      refine V_lload (pc := 24) X (th_da dtX4_common 14 rfl) rfl ?_
      refine V_lstore (pc := 26) (ls2 := [.null, .null, .null, .null, .long y6, .null, .long (th_rml y4 y6), .null, .long (th_rml y4 y6), .null]) X (th_da dtX4_common 15 rfl) (Nat.le_of_ble_eq_true rfl) rfl rfl ?_
      refine V_goto (pc := 28) (tgt := 6) X (th_da dtX4_common 16 rfl) (by decide) ?_
      refine V_mask [false, false, false, false, true, false, true, false, false, false] (ls2 := [.null, .null, .null, .null, .long y6, .null, .long (th_rml y4 y6), .null, .null, .null]) rfl ?_
      exact ih _ _ _ hf
set_option maxHeartbeats 4000000 in
set_option maxRecDepth 100000 in
theorem mX4_common (l : Launch) (x0 : Int64) (x2 : Int64) (h : th_H) (rr : Int64) (hh : th_H) (hf : fX4_common x0 x2 h = some (rr, hh)) : th_MI l LM yX4_common cX4_common 10 (some .long) 0 0 [.long x0, .long x2] h (some (.long rr)) hh := by
  refine th_MI_of (ls := [.long x0, .null, .long x2, .null, .null, .null, .null, .null, .null, .null]) RX4 rfl rfl rfl (Nat.le_of_ble_eq_true rfl) ?_
  intro p0 e s m args below meth c D cI cZ ad X
  unfold fX4_common at hf
  refine V_lload_n (pc := 0) X (th_da dtX4_common 0 rfl) rfl ?_
  refine V_lstore (pc := 1) (ls2 := [.long x0, .null, .long x2, .null, .long x0, .null, .null, .null, .null, .null]) X (th_da dtX4_common 1 rfl) (Nat.le_of_ble_eq_true rfl) rfl rfl ?_
  refine V_lload_n (pc := 3) X (th_da dtX4_common 2 rfl) rfl ?_
  refine V_lstore (pc := 4) (ls2 := [.long x0, .null, .long x2, .null, .long x0, .null, .long x2, .null, .null, .null]) X (th_da dtX4_common 3 rfl) (Nat.le_of_ble_eq_true rfl) rfl rfl ?_
  refine V_mask [false, false, false, false, true, false, true, false, false, false] (ls2 := [.null, .null, .null, .null, .long x0, .null, .long x2, .null, .null, .null]) rfl ?_
  exact tX4_common_c6 X _ _ _ _ hf
end
def fX4_even_c21 : Nat → Int32 → Int64 → Int64 → Int32 → th_H → Option (Int64 × th_H)
  | 0, _, _, _, _, _ => none
  | n + 1, y1, y2, y4, y6, h =>
    if (y6 < 20 : Prop) then
      th_bd (fX4_isFlow y6 h) fun u2 h2 =>
      if (u2 = 0 : Prop) then
        fX4_even_c21 n y1 y2 (y4 + 0) (y6 + 1) h2
      else
        th_bd (fX4_fairRate y6 h2) fun u4 h4 =>
        th_bd (fX4_fairRate y6 h4) fun u5 h5 =>
        fX4_even_c21 n y1 y2 (y4 + ((Int32.toInt64 u4) * (Int32.toInt64 u5))) (y6 + 1) h5
    else
      if ((lg_cmp y2 0) = 0 : Prop) then
        some ((-1), h)
      else
        th_bd (fX4_in (Int32.toInt64 y1) 0 1 h) fun u7 h7 =>
        if (u7 = 0 : Prop) then
          some ((-1), h7)
        else
          th_bd (fX4_flowMany h7) fun u9 h9 =>
          if (y1 = 0 : Prop) then
            th_bd (fX4_common (y2 * y2) (y4 * (Int32.toInt64 u9)) h9) fun u11 h11 =>
            th_dw u11 <|
            some ((y2 * y2) / u11, h11)
          else
            th_bd (fX4_common (y2 * y2) (y4 * (Int32.toInt64 u9)) h9) fun u13 h13 =>
            th_dw u13 <|
            some ((y4 * (Int32.toInt64 u9)) / u13, h13)
def fX4_even (x1 : Int32) (h : th_H) : Option (Int64 × th_H) :=
  th_st (th_up h 0 0 0) fun h1 =>
  th_bd (fX4_layFair h1) fun _u2 h2 =>
  th_bd (fX4_allRates h2) fun u3 h3 =>
  fX4_even_c21 1000 x1 (Int32.toInt64 u3) 0 0 h3
def tbX4_even : List (Nat × Instr × Nat) := [(0, .aload_n 0, 1), (1, .iconst 0, 1), (2, .putfield 55, 3), (5, .aload_n 0, 1), (6, .invokevirtual 207, 3), (9, .aload_n 0, 1), (10, .invokevirtual 216, 3), (13, .i2l, 1), (14, .lstore_n 2, 1), (15, .lconst 0, 1), (16, .lstore 4, 2), (18, .iconst 0, 1), (19, .istore 6, 2), (21, .iload 6, 2), (23, .bipush 20, 2), (25, .if_icmp .ge 42, 3), (28, .lload 4, 2), (30, .aload_n 0, 1), (31, .iload 6, 2), (33, .invokevirtual 125, 3), (36, .ifCond .eq 21, 3), (39, .aload_n 0, 1), (40, .iload 6, 2), (42, .invokevirtual 199, 3), (45, .i2l, 1), (46, .aload_n 0, 1), (47, .iload 6, 2), (49, .invokevirtual 199, 3), (52, .i2l, 1), (53, .lmul, 1), (54, .goto 4, 3), (57, .lconst 0, 1), (58, .ladd, 1), (59, .lstore 4, 2), (61, .iinc 6 1, 3), (64, .goto (-43), 3), (67, .lload_n 2, 1), (68, .lconst 0, 1), (69, .lcmp, 1), (70, .ifCond .eq 13, 3), (73, .iload_n 1, 1), (74, .i2l, 1), (75, .lconst 0, 1), (76, .lconst 1, 1), (77, .invokestatic 63, 3), (80, .ifCond .ne 7, 3), (83, .ldc2_w 227, 3), (86, .lreturn, 1), (87, .lload_n 2, 1), (88, .lload_n 2, 1), (89, .lmul, 1), (90, .lstore 6, 2), (92, .lload 4, 2), (94, .aload_n 0, 1), (95, .invokevirtual 128, 3), (98, .i2l, 1), (99, .lmul, 1), (100, .lstore 8, 2), (102, .iload_n 1, 1), (103, .ifCond .ne 8, 3), (106, .lload 6, 2), (108, .goto 5, 3), (111, .lload 8, 2), (113, .lload 6, 2), (115, .lload 8, 2), (117, .invokestatic 229, 3), (120, .ldiv, 1), (121, .lreturn, 1)]
theorem dtX4_even : th_dec cX4_even tbX4_even = true := by decide +kernel
section
variable {p0 : Program} {l : Launch} {e : Env} {s : State} {m : MethodId} {args : Array Value} {below : List Frame} {meth : Method} {c : Code} {D : va_G} {cI cZ : ClassId} {ad : Nat → Nat} {rr : Int64} {hh : th_H}
set_option maxHeartbeats 4000000 in
set_option maxRecDepth 100000 in
theorem tX4_even_c21 (X : th_X p0 s m args meth c D cI cZ ad LM 10 RX4 cX4_even (some .long)) : ∀ (n : Nat) (y1 : Int32) (y2 : Int64) (y4 : Int64) (y6 : Int32) (h : th_H), fX4_even_c21 n y1 y2 y4 y6 h = some (rr, hh) → th_V p0 l e { frames := 5, cells := 0, slots := 0, locals := 115 } s m args below meth c D cI cZ ad LM 10 (some (.long rr)) hh 21 [.ref 0, .int y1, .long y2, .null, .long y4, .null, .int y6, .null, .null, .null] [] h := by
  intro n
  induction n with
  | zero => intro y1 y2 y4 y6 h hf; cases hf
  | succ n ih =>
    intro y1 y2 y4 y6 h hf
    rw [fX4_even_c21] at hf
    refine V_iload (pc := 21) X (th_da dtX4_even 13 rfl) rfl ?_
    refine V_bipush (pc := 23) (v := 20) X (th_da dtX4_even 14 rfl) (by decide) ?_
    refine V_icmp_ge (pc := 25) (tgt := 67) X (th_da dtX4_even 15 rfl) (by decide) (fun c1 => ?_) (fun c1 => ?_)
    · rw [if_pos c1] at hf
      refine V_lload (pc := 28) X (th_da dtX4_even 16 rfl) rfl ?_
      refine V_aload_n (pc := 30) X (th_da dtX4_even 17 rfl) rfl ?_
      refine V_iload (pc := 31) X (th_da dtX4_even 18 rfl) rfl ?_
      obtain ⟨u2, h2, e2, hf⟩ := th_bd_some hf
      refine V_callVi (pc := 33) (q := 0) (As := [.int y6]) X (th_da dtX4_even 19 rfl) (mX4_isFlow l _ _ _ _ e2) wcd_X4_isFlow wml_X4_125 wim_X4_isFlow wse_X4_isFlow win_X4_isFlow hd_X4_isFlow ⟨Nat.le_of_ble_eq_true rfl, Nat.le_of_ble_eq_true rfl⟩ (Nat.le_of_ble_eq_true rfl) rfl rfl rfl ?_
      refine V_if_eq (pc := 36) (tgt := 57) X (th_da dtX4_even 20 rfl) (by decide) (fun c3 => ?_) (fun c3 => ?_)
      · rw [if_pos c3] at hf
        refine V_lconst (pc := 57) (v := 0) X (th_da dtX4_even 31 rfl) (by decide) ?_
        refine V_ladd (pc := 58) X (th_da dtX4_even 32 rfl) ?_
        refine V_lstore (pc := 59) (ls2 := [.ref 0, .int y1, .long y2, .null, .long (y4 + 0), .null, .int y6, .null, .null, .null]) X (th_da dtX4_even 33 rfl) (Nat.le_of_ble_eq_true rfl) rfl rfl ?_
        refine V_iinc (pc := 61) (v := y6 + 1) (ls2 := [.ref 0, .int y1, .long y2, .null, .long (y4 + 0), .null, .int (y6 + 1), .null, .null, .null]) X (th_da dtX4_even 34 rfl) rfl rfl (Nat.le_of_ble_eq_true rfl) rfl rfl ?_
        refine V_goto (pc := 64) (tgt := 21) X (th_da dtX4_even 35 rfl) (by decide) ?_
        exact ih _ _ _ _ _ hf
      · rw [if_neg c3] at hf
        refine V_aload_n (pc := 39) X (th_da dtX4_even 21 rfl) rfl ?_
        refine V_iload (pc := 40) X (th_da dtX4_even 22 rfl) rfl ?_
        obtain ⟨u4, h4, e4, hf⟩ := th_bd_some hf
        refine V_callVi (pc := 42) (q := 0) (As := [.int y6]) X (th_da dtX4_even 23 rfl) (mX4_fairRate l _ _ _ _ e4) wcd_X4_fairRate wml_X4_199 wim_X4_fairRate wse_X4_fairRate win_X4_fairRate hd_X4_fairRate ⟨Nat.le_of_ble_eq_true rfl, Nat.le_of_ble_eq_true rfl⟩ (Nat.le_of_ble_eq_true rfl) rfl rfl rfl ?_
        refine V_i2l (pc := 45) X (th_da dtX4_even 24 rfl) ?_
        refine V_aload_n (pc := 46) X (th_da dtX4_even 25 rfl) rfl ?_
        refine V_iload (pc := 47) X (th_da dtX4_even 26 rfl) rfl ?_
        obtain ⟨u5, h5, e5, hf⟩ := th_bd_some hf
        refine V_callVi (pc := 49) (q := 0) (As := [.int y6]) X (th_da dtX4_even 27 rfl) (mX4_fairRate l _ _ _ _ e5) wcd_X4_fairRate wml_X4_199 wim_X4_fairRate wse_X4_fairRate win_X4_fairRate hd_X4_fairRate ⟨Nat.le_of_ble_eq_true rfl, Nat.le_of_ble_eq_true rfl⟩ (Nat.le_of_ble_eq_true rfl) rfl rfl rfl ?_
        refine V_i2l (pc := 52) X (th_da dtX4_even 28 rfl) ?_
        refine V_lmul (pc := 53) X (th_da dtX4_even 29 rfl) ?_
        refine V_goto (pc := 54) (tgt := 58) X (th_da dtX4_even 30 rfl) (by decide) ?_
        refine V_ladd (pc := 58) X (th_da dtX4_even 32 rfl) ?_
        refine V_lstore (pc := 59) (ls2 := [.ref 0, .int y1, .long y2, .null, .long (y4 + ((Int32.toInt64 u4) * (Int32.toInt64 u5))), .null, .int y6, .null, .null, .null]) X (th_da dtX4_even 33 rfl) (Nat.le_of_ble_eq_true rfl) rfl rfl ?_
        refine V_iinc (pc := 61) (v := y6 + 1) (ls2 := [.ref 0, .int y1, .long y2, .null, .long (y4 + ((Int32.toInt64 u4) * (Int32.toInt64 u5))), .null, .int (y6 + 1), .null, .null, .null]) X (th_da dtX4_even 34 rfl) rfl rfl (Nat.le_of_ble_eq_true rfl) rfl rfl ?_
        refine V_goto (pc := 64) (tgt := 21) X (th_da dtX4_even 35 rfl) (by decide) ?_
        exact ih _ _ _ _ _ hf
    · rw [if_neg c1] at hf
      refine V_lload_n (pc := 67) X (th_da dtX4_even 36 rfl) rfl ?_
      refine V_lconst (pc := 68) (v := 0) X (th_da dtX4_even 37 rfl) (by decide) ?_
      refine V_lcmp (pc := 69) X (th_da dtX4_even 38 rfl) ?_
      refine V_if_eq (pc := 70) (tgt := 83) X (th_da dtX4_even 39 rfl) (by decide) (fun c6 => ?_) (fun c6 => ?_)
      · rw [if_pos c6] at hf
        refine V_ldc2 (pc := 83) (v := (-1)) X (th_da dtX4_even 46 rfl) wcl_X4_227 ?_
        exact V_lretF (pc := 86) X (th_da dtX4_even 47 rfl) hf
      · rw [if_neg c6] at hf
        refine V_iload_n (pc := 73) X (th_da dtX4_even 40 rfl) rfl ?_
        refine V_i2l (pc := 74) X (th_da dtX4_even 41 rfl) ?_
        refine V_lconst (pc := 75) (v := 0) X (th_da dtX4_even 42 rfl) (by decide) ?_
        refine V_lconst (pc := 76) (v := 1) X (th_da dtX4_even 43 rfl) (by decide) ?_
        obtain ⟨u7, h7, e7, hf⟩ := th_bd_some hf
        refine V_callSi (pc := 77) (As := [.long (Int32.toInt64 y1), .long 0, .long 1]) X (th_da dtX4_even 44 rfl) (mX4_in l _ _ _ _ _ _ e7) wcd_X4_in wml_X4_63 wst_X4_in win_X4_in hd_X4_in ⟨Nat.le_of_ble_eq_true rfl, Nat.le_of_ble_eq_true rfl⟩ (Nat.le_of_ble_eq_true rfl) rfl ?_
        refine V_if_ne (pc := 80) (tgt := 87) X (th_da dtX4_even 45 rfl) (by decide) (fun c8 => ?_) (fun c8 => ?_)
        · rw [if_pos c8] at hf
          refine V_ldc2 (pc := 83) (v := (-1)) X (th_da dtX4_even 46 rfl) wcl_X4_227 ?_
          exact V_lretF (pc := 86) X (th_da dtX4_even 47 rfl) hf
        · rw [if_neg c8] at hf
          refine V_lload_n (pc := 87) X (th_da dtX4_even 48 rfl) rfl ?_
          refine V_lload_n (pc := 88) X (th_da dtX4_even 49 rfl) rfl ?_
          refine V_lmul (pc := 89) X (th_da dtX4_even 50 rfl) ?_
          refine V_lstore (pc := 90) (ls2 := [.ref 0, .int y1, .long y2, .null, .long y4, .null, .long (y2 * y2), .null, .null, .null]) X (th_da dtX4_even 51 rfl) (Nat.le_of_ble_eq_true rfl) rfl rfl ?_
          refine V_lload (pc := 92) X (th_da dtX4_even 52 rfl) rfl ?_
          refine V_aload_n (pc := 94) X (th_da dtX4_even 53 rfl) rfl ?_
          obtain ⟨u9, h9, e9, hf⟩ := th_bd_some hf
          refine V_callVi (pc := 95) (q := 0) (As := []) X (th_da dtX4_even 54 rfl) (mX4_flowMany l _ _ _ e9) wcd_X4_flowMany wml_X4_128 wim_X4_flowMany wse_X4_flowMany win_X4_flowMany hd_X4_flowMany ⟨Nat.le_of_ble_eq_true rfl, Nat.le_of_ble_eq_true rfl⟩ (Nat.le_of_ble_eq_true rfl) rfl rfl rfl ?_
          refine V_i2l (pc := 98) X (th_da dtX4_even 55 rfl) ?_
          refine V_lmul (pc := 99) X (th_da dtX4_even 56 rfl) ?_
          refine V_lstore (pc := 100) (ls2 := [.ref 0, .int y1, .long y2, .null, .long y4, .null, .long (y2 * y2), .null, .long (y4 * (Int32.toInt64 u9)), .null]) X (th_da dtX4_even 57 rfl) (Nat.le_of_ble_eq_true rfl) rfl rfl ?_
          refine V_iload_n (pc := 102) X (th_da dtX4_even 58 rfl) rfl ?_
          refine V_if_ne (pc := 103) (tgt := 111) X (th_da dtX4_even 59 rfl) (by decide) (fun c10 => ?_) (fun c10 => ?_)
          · rw [if_pos c10] at hf
            refine V_lload (pc := 106) X (th_da dtX4_even 60 rfl) rfl ?_
            refine V_goto (pc := 108) (tgt := 113) X (th_da dtX4_even 61 rfl) (by decide) ?_
            refine V_lload (pc := 113) X (th_da dtX4_even 63 rfl) rfl ?_
            refine V_lload (pc := 115) X (th_da dtX4_even 64 rfl) rfl ?_
            obtain ⟨u11, h11, e11, hf⟩ := th_bd_some hf
            refine V_callSl (pc := 117) (As := [.long (y2 * y2), .long (y4 * (Int32.toInt64 u9))]) X (th_da dtX4_even 65 rfl) (mX4_common l _ _ _ _ _ e11) wcd_X4_common wml_X4_229 wst_X4_common win_X4_common hd_X4_common ⟨Nat.le_of_ble_eq_true rfl, Nat.le_of_ble_eq_true rfl⟩ (Nat.le_of_ble_eq_true rfl) rfl ?_
            obtain ⟨g12, hf⟩ := th_dw_some hf
            refine V_ldiv (pc := 120) X (th_da dtX4_even 66 rfl) g12 ?_
            exact V_lretF (pc := 121) X (th_da dtX4_even 67 rfl) hf
          · rw [if_neg c10] at hf
            refine V_lload (pc := 111) X (th_da dtX4_even 62 rfl) rfl ?_
            refine V_lload (pc := 113) X (th_da dtX4_even 63 rfl) rfl ?_
            refine V_lload (pc := 115) X (th_da dtX4_even 64 rfl) rfl ?_
            obtain ⟨u13, h13, e13, hf⟩ := th_bd_some hf
            refine V_callSl (pc := 117) (As := [.long (y2 * y2), .long (y4 * (Int32.toInt64 u9))]) X (th_da dtX4_even 65 rfl) (mX4_common l _ _ _ _ _ e13) wcd_X4_common wml_X4_229 wst_X4_common win_X4_common hd_X4_common ⟨Nat.le_of_ble_eq_true rfl, Nat.le_of_ble_eq_true rfl⟩ (Nat.le_of_ble_eq_true rfl) rfl ?_
            obtain ⟨g14, hf⟩ := th_dw_some hf
            refine V_ldiv (pc := 120) X (th_da dtX4_even 66 rfl) g14 ?_
            exact V_lretF (pc := 121) X (th_da dtX4_even 67 rfl) hf
set_option maxHeartbeats 4000000 in
set_option maxRecDepth 100000 in
theorem mX4_even (l : Launch) (x1 : Int32) (h : th_H) (rr : Int64) (hh : th_H) (hf : fX4_even x1 h = some (rr, hh)) : th_MI l LM yX4_even cX4_even 10 (some .long) 5 115 [.ref 0, .int x1] h (some (.long rr)) hh := by
  refine th_MI_of (ls := [.ref 0, .int x1, .null, .null, .null, .null, .null, .null, .null, .null]) RX4 rfl rfl rfl (Nat.le_of_ble_eq_true rfl) ?_
  intro p0 e s m args below meth c D cI cZ ad X
  unfold fX4_even at hf
  refine V_aload_n (pc := 0) X (th_da dtX4_even 0 rfl) rfl ?_
  refine V_iconst (pc := 1) (v := 0) X (th_da dtX4_even 1 rfl) (by decide) ?_
  obtain ⟨h1, e1, hf⟩ := th_st_some hf
  refine V_putI (pc := 2) (j := 0) (ty := .int) X (th_da dtX4_even 2 rfl) wfl_X4_55 iX4 rfl rfl (Nat.le_of_ble_eq_true rfl) rfl tyX4 tyX4_ok nmX4 rfl (tyX4_ok 0 (Nat.le_of_ble_eq_true rfl)) rfl rfl e1 ?_
  refine V_aload_n (pc := 5) X (th_da dtX4_even 3 rfl) rfl ?_
  obtain ⟨u2, h2, e2, hf⟩ := th_bd_some hf
  refine V_callVv (pc := 6) (q := 0) (As := []) X (th_da dtX4_even 4 rfl) (mX4_layFair l _ _ _ e2) wcd_X4_layFair wml_X4_207 wim_X4_layFair wse_X4_layFair win_X4_layFair hd_X4_layFair ⟨Nat.le_of_ble_eq_true rfl, Nat.le_of_ble_eq_true rfl⟩ (Nat.le_of_ble_eq_true rfl) rfl rfl rfl ?_
  refine V_aload_n (pc := 9) X (th_da dtX4_even 5 rfl) rfl ?_
  obtain ⟨u3, h3, e3, hf⟩ := th_bd_some hf
  refine V_callVi (pc := 10) (q := 0) (As := []) X (th_da dtX4_even 6 rfl) (mX4_allRates l _ _ _ e3) wcd_X4_allRates wml_X4_216 wim_X4_allRates wse_X4_allRates win_X4_allRates hd_X4_allRates ⟨Nat.le_of_ble_eq_true rfl, Nat.le_of_ble_eq_true rfl⟩ (Nat.le_of_ble_eq_true rfl) rfl rfl rfl ?_
  refine V_i2l (pc := 13) X (th_da dtX4_even 7 rfl) ?_
  refine V_lstore_n (pc := 14) (ls2 := [.ref 0, .int x1, .long (Int32.toInt64 u3), .null, .null, .null, .null, .null, .null, .null]) X (th_da dtX4_even 8 rfl) (Nat.le_of_ble_eq_true rfl) rfl rfl ?_
  refine V_lconst (pc := 15) (v := 0) X (th_da dtX4_even 9 rfl) (by decide) ?_
  refine V_lstore (pc := 16) (ls2 := [.ref 0, .int x1, .long (Int32.toInt64 u3), .null, .long 0, .null, .null, .null, .null, .null]) X (th_da dtX4_even 10 rfl) (Nat.le_of_ble_eq_true rfl) rfl rfl ?_
  refine V_iconst (pc := 18) (v := 0) X (th_da dtX4_even 11 rfl) (by decide) ?_
  refine V_istore (pc := 19) (ls2 := [.ref 0, .int x1, .long (Int32.toInt64 u3), .null, .long 0, .null, .int 0, .null, .null, .null]) X (th_da dtX4_even 12 rfl) (Nat.le_of_ble_eq_true rfl) rfl rfl ?_
  exact tX4_even_c21 X _ _ _ _ _ _ hf
end
def fX4_advertised (x1 : Int32) (h : th_H) : Option (Int32 × th_H) :=
  th_st (th_up h 0 0 0) fun h1 =>
  th_bd (fX4_isLink x1 h1) fun u2 h2 =>
  if (u2 = 0 : Prop) then
    some ((-1), h2)
  else
    th_bd (fX4_advertises x1 h2) fun u4 h4 =>
    some (u4, h4)
def tbX4_advertised : List (Nat × Instr × Nat) := [(0, .aload_n 0, 1), (1, .iconst 0, 1), (2, .putfield 55, 3), (5, .iload_n 1, 1), (6, .invokestatic 82, 3), (9, .ifCond .eq 11, 3), (12, .aload_n 0, 1), (13, .iload_n 1, 1), (14, .invokevirtual 159, 3), (17, .goto 4, 3), (20, .iconst (-1), 1), (21, .ireturn, 1)]
theorem dtX4_advertised : th_dec cX4_advertised tbX4_advertised = true := by decide +kernel
section
variable {p0 : Program} {l : Launch} {e : Env} {s : State} {m : MethodId} {args : Array Value} {below : List Frame} {meth : Method} {c : Code} {D : va_G} {cI cZ : ClassId} {ad : Nat → Nat} {rr : Int32} {hh : th_H}
set_option maxHeartbeats 4000000 in
set_option maxRecDepth 100000 in
theorem mX4_advertised (l : Launch) (x1 : Int32) (h : th_H) (rr : Int32) (hh : th_H) (hf : fX4_advertised x1 h = some (rr, hh)) : th_MI l LM yX4_advertised cX4_advertised 2 (some .int) 4 92 [.ref 0, .int x1] h (some (.int rr)) hh := by
  refine th_MI_of (ls := [.ref 0, .int x1]) RX4 rfl rfl rfl (Nat.le_of_ble_eq_true rfl) ?_
  intro p0 e s m args below meth c D cI cZ ad X
  unfold fX4_advertised at hf
  refine V_aload_n (pc := 0) X (th_da dtX4_advertised 0 rfl) rfl ?_
  refine V_iconst (pc := 1) (v := 0) X (th_da dtX4_advertised 1 rfl) (by decide) ?_
  obtain ⟨h1, e1, hf⟩ := th_st_some hf
  refine V_putI (pc := 2) (j := 0) (ty := .int) X (th_da dtX4_advertised 2 rfl) wfl_X4_55 iX4 rfl rfl (Nat.le_of_ble_eq_true rfl) rfl tyX4 tyX4_ok nmX4 rfl (tyX4_ok 0 (Nat.le_of_ble_eq_true rfl)) rfl rfl e1 ?_
  refine V_iload_n (pc := 5) X (th_da dtX4_advertised 3 rfl) rfl ?_
  obtain ⟨u2, h2, e2, hf⟩ := th_bd_some hf
  refine V_callSi (pc := 6) (As := [.int x1]) X (th_da dtX4_advertised 4 rfl) (mX4_isLink l _ _ _ _ e2) wcd_X4_isLink wml_X4_82 wst_X4_isLink win_X4_isLink hd_X4_isLink ⟨Nat.le_of_ble_eq_true rfl, Nat.le_of_ble_eq_true rfl⟩ (Nat.le_of_ble_eq_true rfl) rfl ?_
  refine V_if_eq (pc := 9) (tgt := 20) X (th_da dtX4_advertised 5 rfl) (by decide) (fun c3 => ?_) (fun c3 => ?_)
  · rw [if_pos c3] at hf
    refine V_iconst (pc := 20) (v := (-1)) X (th_da dtX4_advertised 10 rfl) (by decide) ?_
    exact V_iretF (pc := 21) X (th_da dtX4_advertised 11 rfl) hf
  · rw [if_neg c3] at hf
    refine V_aload_n (pc := 12) X (th_da dtX4_advertised 6 rfl) rfl ?_
    refine V_iload_n (pc := 13) X (th_da dtX4_advertised 7 rfl) rfl ?_
    obtain ⟨u4, h4, e4, hf⟩ := th_bd_some hf
    refine V_callVi (pc := 14) (q := 0) (As := [.int x1]) X (th_da dtX4_advertised 8 rfl) (mX4_advertises l _ _ _ _ e4) wcd_X4_advertises wml_X4_159 wim_X4_advertises wse_X4_advertises win_X4_advertises hd_X4_advertises ⟨Nat.le_of_ble_eq_true rfl, Nat.le_of_ble_eq_true rfl⟩ (Nat.le_of_ble_eq_true rfl) rfl rfl rfl ?_
    refine V_goto (pc := 17) (tgt := 21) X (th_da dtX4_advertised 9 rfl) (by decide) ?_
    exact V_iretF (pc := 21) X (th_da dtX4_advertised 11 rfl) hf
end
def fX4_passLevel_c25 (k5 : Int32 → Int32 → Int32 → th_H → Option (Int32 × th_H)) : Nat → Int32 → Int32 → Int32 → Int32 → Int64 → Int32 → th_H → Option (Int32 × th_H)
  | 0, _, _, _, _, _, _, _ => none
  | n + 1, y1, y2, y3, y4, y5, y7, h =>
    if (y7 < 20 : Prop) then
      th_bd (fX4_goesOver y7 y1 h) fun u2 h2 =>
      if (u2 = 0 : Prop) then
        fX4_passLevel_c25 k5 n y1 y2 y3 y4 (y5 + 0) (y7 + 1) h2
      else
        if ((((h2.1 0 15) >>> (y7 &&& 31)) &&& 1) = 1 : Prop) then
          th_bd (fX4_elsewhere y7 y1 h2) fun u5 h5 =>
          th_bd (fX4_rate y7 u5 h5) fun u6 h6 =>
          fX4_passLevel_c25 k5 n y1 y2 y3 y4 (y5 + (Int32.toInt64 u6)) (y7 + 1) h6
        else
          th_bd (fX4_rate y7 y4 h2) fun u7 h7 =>
          fX4_passLevel_c25 k5 n y1 y2 y3 y4 (y5 + (Int32.toInt64 u7)) (y7 + 1) h7
    else
      th_rd h 2 643 ((3 : Int32) + y1) fun v8 =>
      if (0 < (lg_cmp y5 (Int32.toInt64 v8)) : Prop) then
        k5 y1 y2 y4 h
      else
        k5 y1 y4 y3 h
def fX4_passLevel_c5 : Nat → Int32 → Int32 → Int32 → th_H → Option (Int32 × th_H)
  | 0, _, _, _, _ => none
  | n + 1, y1, y2, y3, h =>
    if (1 < (y3 - y2) : Prop) then
      fX4_passLevel_c25 (fX4_passLevel_c5 n) 1000 y1 y2 y3 ((y2 + y3) / 2) 0 0 h
    else
      some (y2, h)
def fX4_passLevel (x1 : Int32) (h : th_H) : Option (Int32 × th_H) :=
  fX4_passLevel_c5 1000 x1 0 1000001 h
def tbX4_passLevel : List (Nat × Instr × Nat) := [(0, .iconst 0, 1), (1, .istore_n 2, 1), (2, .ldc 154, 2), (4, .istore_n 3, 1), (5, .iload_n 3, 1), (6, .iload_n 2, 1), (7, .isub, 1), (8, .iconst 1, 1), (9, .if_icmp .le 107, 3), (12, .iload_n 2, 1), (13, .iload_n 3, 1), (14, .iadd, 1), (15, .iconst 2, 1), (16, .idiv, 1), (17, .istore 4, 2), (19, .lconst 0, 1), (20, .lstore 5, 2), (22, .iconst 0, 1), (23, .istore 7, 2), (25, .iload 7, 2), (27, .bipush 20, 2), (29, .if_icmp .ge 60, 3), (32, .lload 5, 2), (34, .aload_n 0, 1), (35, .iload 7, 2), (37, .iload_n 1, 1), (38, .invokevirtual 75, 3), (41, .ifCond .eq 38, 3), (44, .aload_n 0, 1), (45, .iload 7, 2), (47, .aload_n 0, 1), (48, .getfield 233, 3), (51, .iload 7, 2), (53, .ishr, 1), (54, .iconst 1, 1), (55, .iand, 1), (56, .iconst 1, 1), (57, .if_icmp .ne 13, 3), (60, .aload_n 0, 1), (61, .iload 7, 2), (63, .iload_n 1, 1), (64, .invokevirtual 148, 3), (67, .goto 5, 3), (70, .iload 4, 2), (72, .invokevirtual 151, 3), (75, .i2l, 1), (76, .goto 4, 3), (79, .lconst 0, 1), (80, .ladd, 1), (81, .lstore 5, 2), (83, .iinc 7 1, 3), (86, .goto (-61), 3), (89, .lload 5, 2), (91, .aload_n 0, 1), (92, .getfield 15, 3), (95, .iconst 3, 1), (96, .iload_n 1, 1), (97, .iadd, 1), (98, .iaload, 1), (99, .i2l, 1), (100, .lcmp, 1), (101, .ifCond .gt 9, 3), (104, .iload 4, 2), (106, .istore_n 2, 1), (107, .goto 6, 3), (110, .iload 4, 2), (112, .istore_n 3, 1), (113, .goto (-108), 3), (116, .iload_n 2, 1), (117, .ireturn, 1)]
theorem dtX4_passLevel : th_dec cX4_passLevel tbX4_passLevel = true := by decide +kernel
section
variable {p0 : Program} {l : Launch} {e : Env} {s : State} {m : MethodId} {args : Array Value} {below : List Frame} {meth : Method} {c : Code} {D : va_G} {cI cZ : ClassId} {ad : Nat → Nat} {rr : Int32} {hh : th_H}
set_option maxHeartbeats 4000000 in
set_option maxRecDepth 100000 in
theorem tX4_passLevel_c25 (X : th_X p0 s m args meth c D cI cZ ad LM 8 RX4 cX4_passLevel (some .int)) (k5 : Int32 → Int32 → Int32 → th_H → Option (Int32 × th_H)) (hk5 : ∀ (y1 : Int32) (y2 : Int32) (y3 : Int32) (h : th_H), k5 y1 y2 y3 h = some (rr, hh) → th_V p0 l e { frames := 2, cells := 0, slots := 0, locals := 43 } s m args below meth c D cI cZ ad LM 8 (some (.int rr)) hh 5 [.ref 0, .int y1, .int y2, .int y3, .null, .null, .null, .null] [] h) : ∀ (n : Nat) (y1 : Int32) (y2 : Int32) (y3 : Int32) (y4 : Int32) (y5 : Int64) (y7 : Int32) (h : th_H), fX4_passLevel_c25 k5 n y1 y2 y3 y4 y5 y7 h = some (rr, hh) → th_V p0 l e { frames := 2, cells := 0, slots := 0, locals := 43 } s m args below meth c D cI cZ ad LM 8 (some (.int rr)) hh 25 [.ref 0, .int y1, .int y2, .int y3, .int y4, .long y5, .null, .int y7] [] h := by
  intro n
  induction n with
  | zero => intro y1 y2 y3 y4 y5 y7 h hf; cases hf
  | succ n ih =>
    intro y1 y2 y3 y4 y5 y7 h hf
    rw [fX4_passLevel_c25] at hf
    refine V_iload (pc := 25) X (th_da dtX4_passLevel 19 rfl) rfl ?_
    refine V_bipush (pc := 27) (v := 20) X (th_da dtX4_passLevel 20 rfl) (by decide) ?_
    refine V_icmp_ge (pc := 29) (tgt := 89) X (th_da dtX4_passLevel 21 rfl) (by decide) (fun c1 => ?_) (fun c1 => ?_)
    · rw [if_pos c1] at hf
      refine V_lload (pc := 32) X (th_da dtX4_passLevel 22 rfl) rfl ?_
      refine V_aload_n (pc := 34) X (th_da dtX4_passLevel 23 rfl) rfl ?_
      refine V_iload (pc := 35) X (th_da dtX4_passLevel 24 rfl) rfl ?_
      refine V_iload_n (pc := 37) X (th_da dtX4_passLevel 25 rfl) rfl ?_
      obtain ⟨u2, h2, e2, hf⟩ := th_bd_some hf
      refine V_callVi (pc := 38) (q := 0) (As := [.int y7, .int y1]) X (th_da dtX4_passLevel 26 rfl) (mX4_goesOver l _ _ _ _ _ e2) wcd_X4_goesOver wml_X4_75 wim_X4_goesOver wse_X4_goesOver win_X4_goesOver hd_X4_goesOver ⟨Nat.le_of_ble_eq_true rfl, Nat.le_of_ble_eq_true rfl⟩ (Nat.le_of_ble_eq_true rfl) rfl rfl rfl ?_
      refine V_if_eq (pc := 41) (tgt := 79) X (th_da dtX4_passLevel 27 rfl) (by decide) (fun c3 => ?_) (fun c3 => ?_)
      · rw [if_pos c3] at hf
        refine V_lconst (pc := 79) (v := 0) X (th_da dtX4_passLevel 47 rfl) (by decide) ?_
        refine V_ladd (pc := 80) X (th_da dtX4_passLevel 48 rfl) ?_
        refine V_lstore (pc := 81) (ls2 := [.ref 0, .int y1, .int y2, .int y3, .int y4, .long (y5 + 0), .null, .int y7]) X (th_da dtX4_passLevel 49 rfl) (Nat.le_of_ble_eq_true rfl) rfl rfl ?_
        refine V_iinc (pc := 83) (v := y7 + 1) (ls2 := [.ref 0, .int y1, .int y2, .int y3, .int y4, .long (y5 + 0), .null, .int (y7 + 1)]) X (th_da dtX4_passLevel 50 rfl) rfl rfl (Nat.le_of_ble_eq_true rfl) rfl rfl ?_
        refine V_goto (pc := 86) (tgt := 25) X (th_da dtX4_passLevel 51 rfl) (by decide) ?_
        exact ih _ _ _ _ _ _ _ hf
      · rw [if_neg c3] at hf
        refine V_aload_n (pc := 44) X (th_da dtX4_passLevel 28 rfl) rfl ?_
        refine V_iload (pc := 45) X (th_da dtX4_passLevel 29 rfl) rfl ?_
        refine V_aload_n (pc := 47) X (th_da dtX4_passLevel 30 rfl) rfl ?_
        refine V_getI (pc := 48) (j := 15) X (th_da dtX4_passLevel 31 rfl) wfl_X4_233 iX4 rfl rfl (Nat.le_of_ble_eq_true rfl) rfl ?_
        refine V_iload (pc := 51) X (th_da dtX4_passLevel 32 rfl) rfl ?_
        refine V_ishr (pc := 53) X (th_da dtX4_passLevel 33 rfl) ?_
        refine V_iconst (pc := 54) (v := 1) X (th_da dtX4_passLevel 34 rfl) (by decide) ?_
        refine V_iand (pc := 55) X (th_da dtX4_passLevel 35 rfl) ?_
        refine V_iconst (pc := 56) (v := 1) X (th_da dtX4_passLevel 36 rfl) (by decide) ?_
        refine V_icmp_ne (pc := 57) (tgt := 70) X (th_da dtX4_passLevel 37 rfl) (by decide) (fun c4 => ?_) (fun c4 => ?_)
        · rw [if_pos c4] at hf
          refine V_aload_n (pc := 60) X (th_da dtX4_passLevel 38 rfl) rfl ?_
          refine V_iload (pc := 61) X (th_da dtX4_passLevel 39 rfl) rfl ?_
          refine V_iload_n (pc := 63) X (th_da dtX4_passLevel 40 rfl) rfl ?_
          obtain ⟨u5, h5, e5, hf⟩ := th_bd_some hf
          refine V_callVi (pc := 64) (q := 0) (As := [.int y7, .int y1]) X (th_da dtX4_passLevel 41 rfl) (mX4_elsewhere l _ _ _ _ _ e5) wcd_X4_elsewhere wml_X4_148 wim_X4_elsewhere wse_X4_elsewhere win_X4_elsewhere hd_X4_elsewhere ⟨Nat.le_of_ble_eq_true rfl, Nat.le_of_ble_eq_true rfl⟩ (Nat.le_of_ble_eq_true rfl) rfl rfl rfl ?_
          refine V_goto (pc := 67) (tgt := 72) X (th_da dtX4_passLevel 42 rfl) (by decide) ?_
          obtain ⟨u6, h6, e6, hf⟩ := th_bd_some hf
          refine V_callVi (pc := 72) (q := 0) (As := [.int y7, .int u5]) X (th_da dtX4_passLevel 44 rfl) (mX4_rate l _ _ _ _ _ e6) wcd_X4_rate wml_X4_151 wim_X4_rate wse_X4_rate win_X4_rate hd_X4_rate ⟨Nat.le_of_ble_eq_true rfl, Nat.le_of_ble_eq_true rfl⟩ (Nat.le_of_ble_eq_true rfl) rfl rfl rfl ?_
          refine V_i2l (pc := 75) X (th_da dtX4_passLevel 45 rfl) ?_
          refine V_goto (pc := 76) (tgt := 80) X (th_da dtX4_passLevel 46 rfl) (by decide) ?_
          refine V_ladd (pc := 80) X (th_da dtX4_passLevel 48 rfl) ?_
          refine V_lstore (pc := 81) (ls2 := [.ref 0, .int y1, .int y2, .int y3, .int y4, .long (y5 + (Int32.toInt64 u6)), .null, .int y7]) X (th_da dtX4_passLevel 49 rfl) (Nat.le_of_ble_eq_true rfl) rfl rfl ?_
          refine V_iinc (pc := 83) (v := y7 + 1) (ls2 := [.ref 0, .int y1, .int y2, .int y3, .int y4, .long (y5 + (Int32.toInt64 u6)), .null, .int (y7 + 1)]) X (th_da dtX4_passLevel 50 rfl) rfl rfl (Nat.le_of_ble_eq_true rfl) rfl rfl ?_
          refine V_goto (pc := 86) (tgt := 25) X (th_da dtX4_passLevel 51 rfl) (by decide) ?_
          exact ih _ _ _ _ _ _ _ hf
        · rw [if_neg c4] at hf
          refine V_iload (pc := 70) X (th_da dtX4_passLevel 43 rfl) rfl ?_
          obtain ⟨u7, h7, e7, hf⟩ := th_bd_some hf
          refine V_callVi (pc := 72) (q := 0) (As := [.int y7, .int y4]) X (th_da dtX4_passLevel 44 rfl) (mX4_rate l _ _ _ _ _ e7) wcd_X4_rate wml_X4_151 wim_X4_rate wse_X4_rate win_X4_rate hd_X4_rate ⟨Nat.le_of_ble_eq_true rfl, Nat.le_of_ble_eq_true rfl⟩ (Nat.le_of_ble_eq_true rfl) rfl rfl rfl ?_
          refine V_i2l (pc := 75) X (th_da dtX4_passLevel 45 rfl) ?_
          refine V_goto (pc := 76) (tgt := 80) X (th_da dtX4_passLevel 46 rfl) (by decide) ?_
          refine V_ladd (pc := 80) X (th_da dtX4_passLevel 48 rfl) ?_
          refine V_lstore (pc := 81) (ls2 := [.ref 0, .int y1, .int y2, .int y3, .int y4, .long (y5 + (Int32.toInt64 u7)), .null, .int y7]) X (th_da dtX4_passLevel 49 rfl) (Nat.le_of_ble_eq_true rfl) rfl rfl ?_
          refine V_iinc (pc := 83) (v := y7 + 1) (ls2 := [.ref 0, .int y1, .int y2, .int y3, .int y4, .long (y5 + (Int32.toInt64 u7)), .null, .int (y7 + 1)]) X (th_da dtX4_passLevel 50 rfl) rfl rfl (Nat.le_of_ble_eq_true rfl) rfl rfl ?_
          refine V_goto (pc := 86) (tgt := 25) X (th_da dtX4_passLevel 51 rfl) (by decide) ?_
          exact ih _ _ _ _ _ _ _ hf
    · rw [if_neg c1] at hf
      refine V_lload (pc := 89) X (th_da dtX4_passLevel 52 rfl) rfl ?_
      refine V_aload_n (pc := 91) X (th_da dtX4_passLevel 53 rfl) rfl ?_
      refine V_getR (pc := 92) (j := 2) (t := 2) X (th_da dtX4_passLevel 54 rfl) wfl_X4_15 iX4 rfl rfl (Nat.le_of_ble_eq_true rfl) rfl ?_
      refine V_iconst (pc := 95) (v := 3) X (th_da dtX4_passLevel 55 rfl) (by decide) ?_
      refine V_iload_n (pc := 96) X (th_da dtX4_passLevel 56 rfl) rfl ?_
      refine V_iadd (pc := 97) X (th_da dtX4_passLevel 57 rfl) ?_
      obtain ⟨v8, e8, g8, hf⟩ := th_rd_some hf
      refine V_iald (pc := 98) X (th_da dtX4_passLevel 58 rfl) rfl g8 e8 ?_
      refine V_i2l (pc := 99) X (th_da dtX4_passLevel 59 rfl) ?_
      refine V_lcmp (pc := 100) X (th_da dtX4_passLevel 60 rfl) ?_
      refine V_if_gt (pc := 101) (tgt := 110) X (th_da dtX4_passLevel 61 rfl) (by decide) (fun c9 => ?_) (fun c9 => ?_)
      · rw [if_pos c9] at hf
        refine V_iload (pc := 110) X (th_da dtX4_passLevel 65 rfl) rfl ?_
        refine V_istore_n (pc := 112) (ls2 := [.ref 0, .int y1, .int y2, .int y4, .int y4, .long y5, .null, .int y7]) X (th_da dtX4_passLevel 66 rfl) (Nat.le_of_ble_eq_true rfl) rfl rfl ?_
        refine V_goto (pc := 113) (tgt := 5) X (th_da dtX4_passLevel 67 rfl) (by decide) ?_
        refine V_mask [true, true, true, true, false, false, false, false] (ls2 := [.ref 0, .int y1, .int y2, .int y4, .null, .null, .null, .null]) rfl ?_
        exact hk5 _ _ _ _ hf
      · rw [if_neg c9] at hf
        refine V_iload (pc := 104) X (th_da dtX4_passLevel 62 rfl) rfl ?_
        refine V_istore_n (pc := 106) (ls2 := [.ref 0, .int y1, .int y4, .int y3, .int y4, .long y5, .null, .int y7]) X (th_da dtX4_passLevel 63 rfl) (Nat.le_of_ble_eq_true rfl) rfl rfl ?_
        refine V_goto (pc := 107) (tgt := 113) X (th_da dtX4_passLevel 64 rfl) (by decide) ?_
        refine V_goto (pc := 113) (tgt := 5) X (th_da dtX4_passLevel 67 rfl) (by decide) ?_
        refine V_mask [true, true, true, true, false, false, false, false] (ls2 := [.ref 0, .int y1, .int y4, .int y3, .null, .null, .null, .null]) rfl ?_
        exact hk5 _ _ _ _ hf
set_option maxHeartbeats 4000000 in
set_option maxRecDepth 100000 in
theorem tX4_passLevel_c5 (X : th_X p0 s m args meth c D cI cZ ad LM 8 RX4 cX4_passLevel (some .int)) : ∀ (n : Nat) (y1 : Int32) (y2 : Int32) (y3 : Int32) (h : th_H), fX4_passLevel_c5 n y1 y2 y3 h = some (rr, hh) → th_V p0 l e { frames := 2, cells := 0, slots := 0, locals := 43 } s m args below meth c D cI cZ ad LM 8 (some (.int rr)) hh 5 [.ref 0, .int y1, .int y2, .int y3, .null, .null, .null, .null] [] h := by
  intro n
  induction n with
  | zero => intro y1 y2 y3 h hf; cases hf
  | succ n ih =>
    intro y1 y2 y3 h hf
    rw [fX4_passLevel_c5] at hf
    refine V_iload_n (pc := 5) X (th_da dtX4_passLevel 4 rfl) rfl ?_
    refine V_iload_n (pc := 6) X (th_da dtX4_passLevel 5 rfl) rfl ?_
    refine V_isub (pc := 7) X (th_da dtX4_passLevel 6 rfl) ?_
    refine V_iconst (pc := 8) (v := 1) X (th_da dtX4_passLevel 7 rfl) (by decide) ?_
    refine V_icmp_le (pc := 9) (tgt := 116) X (th_da dtX4_passLevel 8 rfl) (by decide) (fun c1 => ?_) (fun c1 => ?_)
    · rw [if_pos c1] at hf
      refine V_iload_n (pc := 12) X (th_da dtX4_passLevel 9 rfl) rfl ?_
      refine V_iload_n (pc := 13) X (th_da dtX4_passLevel 10 rfl) rfl ?_
      refine V_iadd (pc := 14) X (th_da dtX4_passLevel 11 rfl) ?_
      refine V_iconst (pc := 15) (v := 2) X (th_da dtX4_passLevel 12 rfl) (by decide) ?_
      refine V_idiv (pc := 16) X (th_da dtX4_passLevel 13 rfl) (by decide) ?_
      refine V_istore (pc := 17) (ls2 := [.ref 0, .int y1, .int y2, .int y3, .int ((y2 + y3) / 2), .null, .null, .null]) X (th_da dtX4_passLevel 14 rfl) (Nat.le_of_ble_eq_true rfl) rfl rfl ?_
      refine V_lconst (pc := 19) (v := 0) X (th_da dtX4_passLevel 15 rfl) (by decide) ?_
      refine V_lstore (pc := 20) (ls2 := [.ref 0, .int y1, .int y2, .int y3, .int ((y2 + y3) / 2), .long 0, .null, .null]) X (th_da dtX4_passLevel 16 rfl) (Nat.le_of_ble_eq_true rfl) rfl rfl ?_
      refine V_iconst (pc := 22) (v := 0) X (th_da dtX4_passLevel 17 rfl) (by decide) ?_
      refine V_istore (pc := 23) (ls2 := [.ref 0, .int y1, .int y2, .int y3, .int ((y2 + y3) / 2), .long 0, .null, .int 0]) X (th_da dtX4_passLevel 18 rfl) (Nat.le_of_ble_eq_true rfl) rfl rfl ?_
      exact tX4_passLevel_c25 X _ ih _ _ _ _ _ _ _ _ hf
    · rw [if_neg c1] at hf
      refine V_iload_n (pc := 116) X (th_da dtX4_passLevel 68 rfl) rfl ?_
      exact V_iretF (pc := 117) X (th_da dtX4_passLevel 69 rfl) hf
set_option maxHeartbeats 4000000 in
set_option maxRecDepth 100000 in
theorem mX4_passLevel (l : Launch) (x1 : Int32) (h : th_H) (rr : Int32) (hh : th_H) (hf : fX4_passLevel x1 h = some (rr, hh)) : th_MI l LM yX4_passLevel cX4_passLevel 8 (some .int) 2 43 [.ref 0, .int x1] h (some (.int rr)) hh := by
  refine th_MI_of (ls := [.ref 0, .int x1, .null, .null, .null, .null, .null, .null]) RX4 rfl rfl rfl (Nat.le_of_ble_eq_true rfl) ?_
  intro p0 e s m args below meth c D cI cZ ad X
  unfold fX4_passLevel at hf
  refine V_iconst (pc := 0) (v := 0) X (th_da dtX4_passLevel 0 rfl) (by decide) ?_
  refine V_istore_n (pc := 1) (ls2 := [.ref 0, .int x1, .int 0, .null, .null, .null, .null, .null]) X (th_da dtX4_passLevel 1 rfl) (Nat.le_of_ble_eq_true rfl) rfl rfl ?_
  refine V_ldc (pc := 2) (v := 1000001) X (th_da dtX4_passLevel 2 rfl) wco_X4_154 ?_
  refine V_istore_n (pc := 4) (ls2 := [.ref 0, .int x1, .int 0, .int 1000001, .null, .null, .null, .null]) X (th_da dtX4_passLevel 3 rfl) (Nat.le_of_ble_eq_true rfl) rfl rfl ?_
  exact tX4_passLevel_c5 X _ _ _ _ _ hf
end
def fX4_pass_c61 (k29 : Int32 → Int32 → Int32 → Int32 → th_H → Option (Int32 × th_H)) : Nat → Int32 → Int32 → Int32 → Int32 → Int32 → Int32 → th_H → Option (Int32 × th_H)
  | 0, _, _, _, _, _, _, _ => none
  | n + 1, y1, y2, y3, y5, y6, y7, h =>
    if (y7 < 20 : Prop) then
      th_bd (fX4_goesOver y7 y1 h) fun u2 h2 =>
      if (u2 = 0 : Prop) then
        th_st (th_up h2 0 15 ((h.1 0 15) ||| 0)) fun h4 =>
        fX4_pass_c61 k29 n y1 y2 y3 y5 y6 (y7 + 1) h4
      else
        th_bd (fX4_elsewhere y7 y1 h2) fun u5 h5 =>
        if (u5 < y5 : Prop) then
          th_st (th_up h5 0 15 ((h.1 0 15) ||| ((1 : Int32) <<< (y7 &&& 31)))) fun h7 =>
          fX4_pass_c61 k29 n y1 y2 y3 y5 y6 (y7 + 1) h7
        else
          th_st (th_up h5 0 15 ((h.1 0 15) ||| 0)) fun h8 =>
          fX4_pass_c61 k29 n y1 y2 y3 y5 y6 (y7 + 1) h8
    else
      if ((h.1 0 15) = y6 : Prop) then
        k29 y1 y2 y3 0 h
      else
        k29 y1 y2 y3 1 h
def fX4_pass_c29 : Nat → Int32 → Int32 → Int32 → Int32 → th_H → Option (Int32 × th_H)
  | 0, _, _, _, _, _ => none
  | n + 1, y1, y2, y3, y4, h =>
    if (y4 = 0 : Prop) then
      if (y2 = (-1) : Prop) then
        some (y3, h)
      else
        some ((-1), h)
    else
      th_bd (fX4_passLevel y1 h) fun u3 h3 =>
      if (y3 = y2 : Prop) then
        some (u3, h3)
      else
        fX4_pass_c61 (fX4_pass_c29 n) 1000 y1 y2 (y3 + 1) u3 (h3.1 0 15) 0 h3
def fX4_pass (x1 : Int32) (x2 : Int32) (h : th_H) : Option (Int32 × th_H) :=
  th_st (th_up h 0 0 0) fun h1 =>
  th_bd (fX4_isLink x1 h1) fun u2 h2 =>
  if (u2 = 0 : Prop) then
    some ((-1), h2)
  else
    if (x2 < (-1) : Prop) then
      some ((-1), h2)
    else
      th_st (th_up h2 0 15 0) fun h5 =>
      fX4_pass_c29 1000 x1 x2 0 1 h5
def tbX4_pass : List (Nat × Instr × Nat) := [(0, .aload_n 0, 1), (1, .iconst 0, 1), (2, .putfield 55, 3), (5, .iload_n 1, 1), (6, .invokestatic 82, 3), (9, .ifCond .eq 8, 3), (12, .iload_n 2, 1), (13, .iconst (-1), 1), (14, .if_icmp .ge 5, 3), (17, .iconst (-1), 1), (18, .ireturn, 1), (19, .aload_n 0, 1), (20, .iconst 0, 1), (21, .putfield 233, 3), (24, .iconst 0, 1), (25, .istore_n 3, 1), (26, .iconst 1, 1), (27, .istore 4, 2), (29, .iload 4, 2), (31, .ifCond .eq 101, 3), (34, .aload_n 0, 1), (35, .iload_n 1, 1), (36, .invokevirtual 236, 3), (39, .istore 5, 2), (41, .iload_n 3, 1), (42, .iload_n 2, 1), (43, .if_icmp .ne 6, 3), (46, .iload 5, 2), (48, .ireturn, 1), (49, .iinc 3 1, 3), (52, .aload_n 0, 1), (53, .getfield 233, 3), (56, .istore 6, 2), (58, .iconst 0, 1), (59, .istore 7, 2), (61, .iload 7, 2), (63, .bipush 20, 2), (65, .if_icmp .ge 48, 3), (68, .aload_n 0, 1), (69, .dup, 1), (70, .getfield 233, 3), (73, .aload_n 0, 1), (74, .iload 7, 2), (76, .iload_n 1, 1), (77, .invokevirtual 75, 3), (80, .ifCond .eq 22, 3), (83, .aload_n 0, 1), (84, .iload 7, 2), (86, .iload_n 1, 1), (87, .invokevirtual 148, 3), (90, .iload 5, 2), (92, .if_icmp .ge 10, 3), (95, .iconst 1, 1), (96, .iload 7, 2), (98, .ishl, 1), (99, .goto 4, 3), (102, .iconst 0, 1), (103, .ior, 1), (104, .putfield 233, 3), (107, .iinc 7 1, 3), (110, .goto (-49), 3), (113, .aload_n 0, 1), (114, .getfield 233, 3), (117, .iload 6, 2), (119, .if_icmp .eq 7, 3), (122, .iconst 1, 1), (123, .goto 4, 3), (126, .iconst 0, 1), (127, .istore 4, 2), (129, .goto (-100), 3), (132, .iload_n 2, 1), (133, .iconst (-1), 1), (134, .if_icmp .ne 7, 3), (137, .iload_n 3, 1), (138, .goto 4, 3), (141, .iconst (-1), 1), (142, .ireturn, 1)]
theorem dtX4_pass : th_dec cX4_pass tbX4_pass = true := by decide +kernel
section
variable {p0 : Program} {l : Launch} {e : Env} {s : State} {m : MethodId} {args : Array Value} {below : List Frame} {meth : Method} {c : Code} {D : va_G} {cI cZ : ClassId} {ad : Nat → Nat} {rr : Int32} {hh : th_H}
set_option maxHeartbeats 4000000 in
set_option maxRecDepth 100000 in
theorem tX4_pass_c61 (X : th_X p0 s m args meth c D cI cZ ad LM 8 RX4 cX4_pass (some .int)) (k29 : Int32 → Int32 → Int32 → Int32 → th_H → Option (Int32 × th_H)) (hk29 : ∀ (y1 : Int32) (y2 : Int32) (y3 : Int32) (y4 : Int32) (h : th_H), k29 y1 y2 y3 y4 h = some (rr, hh) → th_V p0 l e { frames := 3, cells := 0, slots := 0, locals := 70 } s m args below meth c D cI cZ ad LM 8 (some (.int rr)) hh 29 [.ref 0, .int y1, .int y2, .int y3, .int y4, .null, .null, .null] [] h) : ∀ (n : Nat) (y1 : Int32) (y2 : Int32) (y3 : Int32) (y5 : Int32) (y6 : Int32) (y7 : Int32) (h : th_H), fX4_pass_c61 k29 n y1 y2 y3 y5 y6 y7 h = some (rr, hh) → th_V p0 l e { frames := 3, cells := 0, slots := 0, locals := 70 } s m args below meth c D cI cZ ad LM 8 (some (.int rr)) hh 61 [.ref 0, .int y1, .int y2, .int y3, .null, .int y5, .int y6, .int y7] [] h := by
  intro n
  induction n with
  | zero => intro y1 y2 y3 y5 y6 y7 h hf; cases hf
  | succ n ih =>
    intro y1 y2 y3 y5 y6 y7 h hf
    rw [fX4_pass_c61] at hf
    refine V_iload (pc := 61) X (th_da dtX4_pass 35 rfl) rfl ?_
    refine V_bipush (pc := 63) (v := 20) X (th_da dtX4_pass 36 rfl) (by decide) ?_
    refine V_icmp_ge (pc := 65) (tgt := 113) X (th_da dtX4_pass 37 rfl) (by decide) (fun c1 => ?_) (fun c1 => ?_)
    · rw [if_pos c1] at hf
      refine V_aload_n (pc := 68) X (th_da dtX4_pass 38 rfl) rfl ?_
      refine V_dup (pc := 69) X (th_da dtX4_pass 39 rfl) rfl ?_
      refine V_getI (pc := 70) (j := 15) X (th_da dtX4_pass 40 rfl) wfl_X4_233 iX4 rfl rfl (Nat.le_of_ble_eq_true rfl) rfl ?_
      refine V_aload_n (pc := 73) X (th_da dtX4_pass 41 rfl) rfl ?_
      refine V_iload (pc := 74) X (th_da dtX4_pass 42 rfl) rfl ?_
      refine V_iload_n (pc := 76) X (th_da dtX4_pass 43 rfl) rfl ?_
      obtain ⟨u2, h2, e2, hf⟩ := th_bd_some hf
      refine V_callVi (pc := 77) (q := 0) (As := [.int y7, .int y1]) X (th_da dtX4_pass 44 rfl) (mX4_goesOver l _ _ _ _ _ e2) wcd_X4_goesOver wml_X4_75 wim_X4_goesOver wse_X4_goesOver win_X4_goesOver hd_X4_goesOver ⟨Nat.le_of_ble_eq_true rfl, Nat.le_of_ble_eq_true rfl⟩ (Nat.le_of_ble_eq_true rfl) rfl rfl rfl ?_
      refine V_if_eq (pc := 80) (tgt := 102) X (th_da dtX4_pass 45 rfl) (by decide) (fun c3 => ?_) (fun c3 => ?_)
      · rw [if_pos c3] at hf
        refine V_iconst (pc := 102) (v := 0) X (th_da dtX4_pass 56 rfl) (by decide) ?_
        refine V_ior (pc := 103) X (th_da dtX4_pass 57 rfl) ?_
        obtain ⟨h4, e4, hf⟩ := th_st_some hf
        refine V_putI (pc := 104) (j := 15) (ty := .int) X (th_da dtX4_pass 58 rfl) wfl_X4_233 iX4 rfl rfl (Nat.le_of_ble_eq_true rfl) rfl tyX4 tyX4_ok nmX4 rfl (tyX4_ok 15 (Nat.le_of_ble_eq_true rfl)) rfl rfl e4 ?_
        refine V_iinc (pc := 107) (v := y7 + 1) (ls2 := [.ref 0, .int y1, .int y2, .int y3, .null, .int y5, .int y6, .int (y7 + 1)]) X (th_da dtX4_pass 59 rfl) rfl rfl (Nat.le_of_ble_eq_true rfl) rfl rfl ?_
        refine V_goto (pc := 110) (tgt := 61) X (th_da dtX4_pass 60 rfl) (by decide) ?_
        exact ih _ _ _ _ _ _ _ hf
      · rw [if_neg c3] at hf
        refine V_aload_n (pc := 83) X (th_da dtX4_pass 46 rfl) rfl ?_
        refine V_iload (pc := 84) X (th_da dtX4_pass 47 rfl) rfl ?_
        refine V_iload_n (pc := 86) X (th_da dtX4_pass 48 rfl) rfl ?_
        obtain ⟨u5, h5, e5, hf⟩ := th_bd_some hf
        refine V_callVi (pc := 87) (q := 0) (As := [.int y7, .int y1]) X (th_da dtX4_pass 49 rfl) (mX4_elsewhere l _ _ _ _ _ e5) wcd_X4_elsewhere wml_X4_148 wim_X4_elsewhere wse_X4_elsewhere win_X4_elsewhere hd_X4_elsewhere ⟨Nat.le_of_ble_eq_true rfl, Nat.le_of_ble_eq_true rfl⟩ (Nat.le_of_ble_eq_true rfl) rfl rfl rfl ?_
        refine V_iload (pc := 90) X (th_da dtX4_pass 50 rfl) rfl ?_
        refine V_icmp_ge (pc := 92) (tgt := 102) X (th_da dtX4_pass 51 rfl) (by decide) (fun c6 => ?_) (fun c6 => ?_)
        · rw [if_pos c6] at hf
          refine V_iconst (pc := 95) (v := 1) X (th_da dtX4_pass 52 rfl) (by decide) ?_
          refine V_iload (pc := 96) X (th_da dtX4_pass 53 rfl) rfl ?_
          refine V_ishl (pc := 98) X (th_da dtX4_pass 54 rfl) ?_
          refine V_goto (pc := 99) (tgt := 103) X (th_da dtX4_pass 55 rfl) (by decide) ?_
          refine V_ior (pc := 103) X (th_da dtX4_pass 57 rfl) ?_
          obtain ⟨h7, e7, hf⟩ := th_st_some hf
          refine V_putI (pc := 104) (j := 15) (ty := .int) X (th_da dtX4_pass 58 rfl) wfl_X4_233 iX4 rfl rfl (Nat.le_of_ble_eq_true rfl) rfl tyX4 tyX4_ok nmX4 rfl (tyX4_ok 15 (Nat.le_of_ble_eq_true rfl)) rfl rfl e7 ?_
          refine V_iinc (pc := 107) (v := y7 + 1) (ls2 := [.ref 0, .int y1, .int y2, .int y3, .null, .int y5, .int y6, .int (y7 + 1)]) X (th_da dtX4_pass 59 rfl) rfl rfl (Nat.le_of_ble_eq_true rfl) rfl rfl ?_
          refine V_goto (pc := 110) (tgt := 61) X (th_da dtX4_pass 60 rfl) (by decide) ?_
          exact ih _ _ _ _ _ _ _ hf
        · rw [if_neg c6] at hf
          refine V_iconst (pc := 102) (v := 0) X (th_da dtX4_pass 56 rfl) (by decide) ?_
          refine V_ior (pc := 103) X (th_da dtX4_pass 57 rfl) ?_
          obtain ⟨h8, e8, hf⟩ := th_st_some hf
          refine V_putI (pc := 104) (j := 15) (ty := .int) X (th_da dtX4_pass 58 rfl) wfl_X4_233 iX4 rfl rfl (Nat.le_of_ble_eq_true rfl) rfl tyX4 tyX4_ok nmX4 rfl (tyX4_ok 15 (Nat.le_of_ble_eq_true rfl)) rfl rfl e8 ?_
          refine V_iinc (pc := 107) (v := y7 + 1) (ls2 := [.ref 0, .int y1, .int y2, .int y3, .null, .int y5, .int y6, .int (y7 + 1)]) X (th_da dtX4_pass 59 rfl) rfl rfl (Nat.le_of_ble_eq_true rfl) rfl rfl ?_
          refine V_goto (pc := 110) (tgt := 61) X (th_da dtX4_pass 60 rfl) (by decide) ?_
          exact ih _ _ _ _ _ _ _ hf
    · rw [if_neg c1] at hf
      refine V_aload_n (pc := 113) X (th_da dtX4_pass 61 rfl) rfl ?_
      refine V_getI (pc := 114) (j := 15) X (th_da dtX4_pass 62 rfl) wfl_X4_233 iX4 rfl rfl (Nat.le_of_ble_eq_true rfl) rfl ?_
      refine V_iload (pc := 117) X (th_da dtX4_pass 63 rfl) rfl ?_
      refine V_icmp_eq (pc := 119) (tgt := 126) X (th_da dtX4_pass 64 rfl) (by decide) (fun c9 => ?_) (fun c9 => ?_)
      · rw [if_pos c9] at hf
        refine V_iconst (pc := 126) (v := 0) X (th_da dtX4_pass 67 rfl) (by decide) ?_
        refine V_istore (pc := 127) (ls2 := [.ref 0, .int y1, .int y2, .int y3, .int 0, .int y5, .int y6, .int y7]) X (th_da dtX4_pass 68 rfl) (Nat.le_of_ble_eq_true rfl) rfl rfl ?_
        refine V_goto (pc := 129) (tgt := 29) X (th_da dtX4_pass 69 rfl) (by decide) ?_
        refine V_mask [true, true, true, true, true, false, false, false] (ls2 := [.ref 0, .int y1, .int y2, .int y3, .int 0, .null, .null, .null]) rfl ?_
        exact hk29 _ _ _ _ _ hf
      · rw [if_neg c9] at hf
        refine V_iconst (pc := 122) (v := 1) X (th_da dtX4_pass 65 rfl) (by decide) ?_
        refine V_goto (pc := 123) (tgt := 127) X (th_da dtX4_pass 66 rfl) (by decide) ?_
        refine V_istore (pc := 127) (ls2 := [.ref 0, .int y1, .int y2, .int y3, .int 1, .int y5, .int y6, .int y7]) X (th_da dtX4_pass 68 rfl) (Nat.le_of_ble_eq_true rfl) rfl rfl ?_
        refine V_goto (pc := 129) (tgt := 29) X (th_da dtX4_pass 69 rfl) (by decide) ?_
        refine V_mask [true, true, true, true, true, false, false, false] (ls2 := [.ref 0, .int y1, .int y2, .int y3, .int 1, .null, .null, .null]) rfl ?_
        exact hk29 _ _ _ _ _ hf
set_option maxHeartbeats 4000000 in
set_option maxRecDepth 100000 in
theorem tX4_pass_c29 (X : th_X p0 s m args meth c D cI cZ ad LM 8 RX4 cX4_pass (some .int)) : ∀ (n : Nat) (y1 : Int32) (y2 : Int32) (y3 : Int32) (y4 : Int32) (h : th_H), fX4_pass_c29 n y1 y2 y3 y4 h = some (rr, hh) → th_V p0 l e { frames := 3, cells := 0, slots := 0, locals := 70 } s m args below meth c D cI cZ ad LM 8 (some (.int rr)) hh 29 [.ref 0, .int y1, .int y2, .int y3, .int y4, .null, .null, .null] [] h := by
  intro n
  induction n with
  | zero => intro y1 y2 y3 y4 h hf; cases hf
  | succ n ih =>
    intro y1 y2 y3 y4 h hf
    rw [fX4_pass_c29] at hf
    refine V_iload (pc := 29) X (th_da dtX4_pass 18 rfl) rfl ?_
    refine V_if_eq (pc := 31) (tgt := 132) X (th_da dtX4_pass 19 rfl) (by decide) (fun c1 => ?_) (fun c1 => ?_)
    · rw [if_pos c1] at hf
      refine V_iload_n (pc := 132) X (th_da dtX4_pass 70 rfl) rfl ?_
      refine V_iconst (pc := 133) (v := (-1)) X (th_da dtX4_pass 71 rfl) (by decide) ?_
      refine V_icmp_ne (pc := 134) (tgt := 141) X (th_da dtX4_pass 72 rfl) (by decide) (fun c2 => ?_) (fun c2 => ?_)
      · rw [if_pos c2] at hf
        refine V_iload_n (pc := 137) X (th_da dtX4_pass 73 rfl) rfl ?_
        refine V_goto (pc := 138) (tgt := 142) X (th_da dtX4_pass 74 rfl) (by decide) ?_
        exact V_iretF (pc := 142) X (th_da dtX4_pass 76 rfl) hf
      · rw [if_neg c2] at hf
        refine V_iconst (pc := 141) (v := (-1)) X (th_da dtX4_pass 75 rfl) (by decide) ?_
        exact V_iretF (pc := 142) X (th_da dtX4_pass 76 rfl) hf
    · rw [if_neg c1] at hf
      refine V_aload_n (pc := 34) X (th_da dtX4_pass 20 rfl) rfl ?_
      refine V_iload_n (pc := 35) X (th_da dtX4_pass 21 rfl) rfl ?_
      obtain ⟨u3, h3, e3, hf⟩ := th_bd_some hf
      refine V_callVi (pc := 36) (q := 0) (As := [.int y1]) X (th_da dtX4_pass 22 rfl) (mX4_passLevel l _ _ _ _ e3) wcd_X4_passLevel wml_X4_236 wim_X4_passLevel wse_X4_passLevel win_X4_passLevel hd_X4_passLevel ⟨Nat.le_of_ble_eq_true rfl, Nat.le_of_ble_eq_true rfl⟩ (Nat.le_of_ble_eq_true rfl) rfl rfl rfl ?_
      refine V_istore (pc := 39) (ls2 := [.ref 0, .int y1, .int y2, .int y3, .int y4, .int u3, .null, .null]) X (th_da dtX4_pass 23 rfl) (Nat.le_of_ble_eq_true rfl) rfl rfl ?_
      refine V_iload_n (pc := 41) X (th_da dtX4_pass 24 rfl) rfl ?_
      refine V_iload_n (pc := 42) X (th_da dtX4_pass 25 rfl) rfl ?_
      refine V_icmp_ne (pc := 43) (tgt := 49) X (th_da dtX4_pass 26 rfl) (by decide) (fun c4 => ?_) (fun c4 => ?_)
      · rw [if_pos c4] at hf
        refine V_iload (pc := 46) X (th_da dtX4_pass 27 rfl) rfl ?_
        exact V_iretF (pc := 48) X (th_da dtX4_pass 28 rfl) hf
      · rw [if_neg c4] at hf
        refine V_iinc (pc := 49) (v := y3 + 1) (ls2 := [.ref 0, .int y1, .int y2, .int (y3 + 1), .int y4, .int u3, .null, .null]) X (th_da dtX4_pass 29 rfl) rfl rfl (Nat.le_of_ble_eq_true rfl) rfl rfl ?_
        refine V_aload_n (pc := 52) X (th_da dtX4_pass 30 rfl) rfl ?_
        refine V_getI (pc := 53) (j := 15) X (th_da dtX4_pass 31 rfl) wfl_X4_233 iX4 rfl rfl (Nat.le_of_ble_eq_true rfl) rfl ?_
        refine V_istore (pc := 56) (ls2 := [.ref 0, .int y1, .int y2, .int (y3 + 1), .int y4, .int u3, .int (h3.1 0 15), .null]) X (th_da dtX4_pass 32 rfl) (Nat.le_of_ble_eq_true rfl) rfl rfl ?_
        refine V_iconst (pc := 58) (v := 0) X (th_da dtX4_pass 33 rfl) (by decide) ?_
        refine V_istore (pc := 59) (ls2 := [.ref 0, .int y1, .int y2, .int (y3 + 1), .int y4, .int u3, .int (h3.1 0 15), .int 0]) X (th_da dtX4_pass 34 rfl) (Nat.le_of_ble_eq_true rfl) rfl rfl ?_
        refine V_mask [true, true, true, true, false, true, true, true] (ls2 := [.ref 0, .int y1, .int y2, .int (y3 + 1), .null, .int u3, .int (h3.1 0 15), .int 0]) rfl ?_
        exact tX4_pass_c61 X _ ih _ _ _ _ _ _ _ _ hf
set_option maxHeartbeats 4000000 in
set_option maxRecDepth 100000 in
theorem mX4_pass (l : Launch) (x1 : Int32) (x2 : Int32) (h : th_H) (rr : Int32) (hh : th_H) (hf : fX4_pass x1 x2 h = some (rr, hh)) : th_MI l LM yX4_pass cX4_pass 8 (some .int) 3 70 [.ref 0, .int x1, .int x2] h (some (.int rr)) hh := by
  refine th_MI_of (ls := [.ref 0, .int x1, .int x2, .null, .null, .null, .null, .null]) RX4 rfl rfl rfl (Nat.le_of_ble_eq_true rfl) ?_
  intro p0 e s m args below meth c D cI cZ ad X
  unfold fX4_pass at hf
  refine V_aload_n (pc := 0) X (th_da dtX4_pass 0 rfl) rfl ?_
  refine V_iconst (pc := 1) (v := 0) X (th_da dtX4_pass 1 rfl) (by decide) ?_
  obtain ⟨h1, e1, hf⟩ := th_st_some hf
  refine V_putI (pc := 2) (j := 0) (ty := .int) X (th_da dtX4_pass 2 rfl) wfl_X4_55 iX4 rfl rfl (Nat.le_of_ble_eq_true rfl) rfl tyX4 tyX4_ok nmX4 rfl (tyX4_ok 0 (Nat.le_of_ble_eq_true rfl)) rfl rfl e1 ?_
  refine V_iload_n (pc := 5) X (th_da dtX4_pass 3 rfl) rfl ?_
  obtain ⟨u2, h2, e2, hf⟩ := th_bd_some hf
  refine V_callSi (pc := 6) (As := [.int x1]) X (th_da dtX4_pass 4 rfl) (mX4_isLink l _ _ _ _ e2) wcd_X4_isLink wml_X4_82 wst_X4_isLink win_X4_isLink hd_X4_isLink ⟨Nat.le_of_ble_eq_true rfl, Nat.le_of_ble_eq_true rfl⟩ (Nat.le_of_ble_eq_true rfl) rfl ?_
  refine V_if_eq (pc := 9) (tgt := 17) X (th_da dtX4_pass 5 rfl) (by decide) (fun c3 => ?_) (fun c3 => ?_)
  · rw [if_pos c3] at hf
    refine V_iconst (pc := 17) (v := (-1)) X (th_da dtX4_pass 9 rfl) (by decide) ?_
    exact V_iretF (pc := 18) X (th_da dtX4_pass 10 rfl) hf
  · rw [if_neg c3] at hf
    refine V_iload_n (pc := 12) X (th_da dtX4_pass 6 rfl) rfl ?_
    refine V_iconst (pc := 13) (v := (-1)) X (th_da dtX4_pass 7 rfl) (by decide) ?_
    refine V_icmp_ge (pc := 14) (tgt := 19) X (th_da dtX4_pass 8 rfl) (by decide) (fun c4 => ?_) (fun c4 => ?_)
    · rw [if_pos c4] at hf
      refine V_iconst (pc := 17) (v := (-1)) X (th_da dtX4_pass 9 rfl) (by decide) ?_
      exact V_iretF (pc := 18) X (th_da dtX4_pass 10 rfl) hf
    · rw [if_neg c4] at hf
      refine V_aload_n (pc := 19) X (th_da dtX4_pass 11 rfl) rfl ?_
      refine V_iconst (pc := 20) (v := 0) X (th_da dtX4_pass 12 rfl) (by decide) ?_
      obtain ⟨h5, e5, hf⟩ := th_st_some hf
      refine V_putI (pc := 21) (j := 15) (ty := .int) X (th_da dtX4_pass 13 rfl) wfl_X4_233 iX4 rfl rfl (Nat.le_of_ble_eq_true rfl) rfl tyX4 tyX4_ok nmX4 rfl (tyX4_ok 15 (Nat.le_of_ble_eq_true rfl)) rfl rfl e5 ?_
      refine V_iconst (pc := 24) (v := 0) X (th_da dtX4_pass 14 rfl) (by decide) ?_
      refine V_istore_n (pc := 25) (ls2 := [.ref 0, .int x1, .int x2, .int 0, .null, .null, .null, .null]) X (th_da dtX4_pass 15 rfl) (Nat.le_of_ble_eq_true rfl) rfl rfl ?_
      refine V_iconst (pc := 26) (v := 1) X (th_da dtX4_pass 16 rfl) (by decide) ?_
      refine V_istore (pc := 27) (ls2 := [.ref 0, .int x1, .int x2, .int 0, .int 1, .null, .null, .null]) X (th_da dtX4_pass 17 rfl) (Nat.le_of_ble_eq_true rfl) rfl rfl ?_
      exact tX4_pass_c29 X _ _ _ _ _ _ hf
end
def fX4_known (x1 : Int32) (x2 : Int32) (x3 : Int32) (h : th_H) : Option (Int32 × th_H) :=
  th_st (th_up h 0 0 0) fun h1 =>
  th_bd (fX4_isFlow x1 h1) fun u2 h2 =>
  if (u2 = 0 : Prop) then
    some ((-1), h2)
  else
    th_bd (fX4_isLink x2 h2) fun u4 h4 =>
    if (u4 = 0 : Prop) then
      some ((-1), h4)
    else
      th_bd (fX4_goesOver x1 x2 h4) fun u6 h6 =>
      if (u6 = 0 : Prop) then
        some ((-1), h6)
      else
        th_bd (fX4_in (Int32.toInt64 x3) 0 2 h6) fun u8 h8 =>
        if (u8 = 0 : Prop) then
          some ((-1), h8)
        else
          if (x3 = 0 : Prop) then
            th_rd h8 2 643 (((243 : Int32) + ((10 : Int32) * x1)) + x2) fun v11 =>
            some (v11, h8)
          else
            if (x3 = 1 : Prop) then
              th_rd h8 2 643 (((443 : Int32) + ((10 : Int32) * x1)) + x2) fun v13 =>
              some (v13, h8)
            else
              th_bd (fX4_elsewhere x1 x2 h8) fun u14 h14 =>
              th_bd (fX4_advertises x2 h14) fun u15 h15 =>
              if (u14 < u15 : Prop) then
                some (1, h15)
              else
                some (0, h15)
def tbX4_known : List (Nat × Instr × Nat) := [(0, .aload_n 0, 1), (1, .iconst 0, 1), (2, .putfield 55, 3), (5, .aload_n 0, 1), (6, .iload_n 1, 1), (7, .invokevirtual 125, 3), (10, .ifCond .eq 31, 3), (13, .iload_n 2, 1), (14, .invokestatic 82, 3), (17, .ifCond .eq 24, 3), (20, .aload_n 0, 1), (21, .iload_n 1, 1), (22, .iload_n 2, 1), (23, .invokevirtual 75, 3), (26, .ifCond .eq 15, 3), (29, .iload_n 3, 1), (30, .i2l, 1), (31, .lconst 0, 1), (32, .ldc2_w 131, 3), (35, .invokestatic 63, 3), (38, .ifCond .ne 5, 3), (41, .iconst (-1), 1), (42, .ireturn, 1), (43, .iload_n 3, 1), (44, .ifCond .ne 21, 3), (47, .aload_n 0, 1), (48, .getfield 15, 3), (51, .sipush 243, 3), (54, .bipush 10, 2), (56, .iload_n 1, 1), (57, .imul, 1), (58, .iadd, 1), (59, .iload_n 2, 1), (60, .iadd, 1), (61, .iaload, 1), (62, .goto 45, 3), (65, .iload_n 3, 1), (66, .iconst 1, 1), (67, .if_icmp .ne 21, 3), (70, .aload_n 0, 1), (71, .getfield 15, 3), (74, .sipush 443, 3), (77, .bipush 10, 2), (79, .iload_n 1, 1), (80, .imul, 1), (81, .iadd, 1), (82, .iload_n 2, 1), (83, .iadd, 1), (84, .iaload, 1), (85, .goto 22, 3), (88, .aload_n 0, 1), (89, .iload_n 1, 1), (90, .iload_n 2, 1), (91, .invokevirtual 148, 3), (94, .aload_n 0, 1), (95, .iload_n 2, 1), (96, .invokevirtual 159, 3), (99, .if_icmp .ge 7, 3), (102, .iconst 1, 1), (103, .goto 4, 3), (106, .iconst 0, 1), (107, .ireturn, 1)]
theorem dtX4_known : th_dec cX4_known tbX4_known = true := by decide +kernel
section
variable {p0 : Program} {l : Launch} {e : Env} {s : State} {m : MethodId} {args : Array Value} {below : List Frame} {meth : Method} {c : Code} {D : va_G} {cI cZ : ClassId} {ad : Nat → Nat} {rr : Int32} {hh : th_H}
set_option maxHeartbeats 4000000 in
set_option maxRecDepth 100000 in
theorem mX4_known (l : Launch) (x1 : Int32) (x2 : Int32) (x3 : Int32) (h : th_H) (rr : Int32) (hh : th_H) (hf : fX4_known x1 x2 x3 h = some (rr, hh)) : th_MI l LM yX4_known cX4_known 4 (some .int) 4 92 [.ref 0, .int x1, .int x2, .int x3] h (some (.int rr)) hh := by
  refine th_MI_of (ls := [.ref 0, .int x1, .int x2, .int x3]) RX4 rfl rfl rfl (Nat.le_of_ble_eq_true rfl) ?_
  intro p0 e s m args below meth c D cI cZ ad X
  unfold fX4_known at hf
  refine V_aload_n (pc := 0) X (th_da dtX4_known 0 rfl) rfl ?_
  refine V_iconst (pc := 1) (v := 0) X (th_da dtX4_known 1 rfl) (by decide) ?_
  obtain ⟨h1, e1, hf⟩ := th_st_some hf
  refine V_putI (pc := 2) (j := 0) (ty := .int) X (th_da dtX4_known 2 rfl) wfl_X4_55 iX4 rfl rfl (Nat.le_of_ble_eq_true rfl) rfl tyX4 tyX4_ok nmX4 rfl (tyX4_ok 0 (Nat.le_of_ble_eq_true rfl)) rfl rfl e1 ?_
  refine V_aload_n (pc := 5) X (th_da dtX4_known 3 rfl) rfl ?_
  refine V_iload_n (pc := 6) X (th_da dtX4_known 4 rfl) rfl ?_
  obtain ⟨u2, h2, e2, hf⟩ := th_bd_some hf
  refine V_callVi (pc := 7) (q := 0) (As := [.int x1]) X (th_da dtX4_known 5 rfl) (mX4_isFlow l _ _ _ _ e2) wcd_X4_isFlow wml_X4_125 wim_X4_isFlow wse_X4_isFlow win_X4_isFlow hd_X4_isFlow ⟨Nat.le_of_ble_eq_true rfl, Nat.le_of_ble_eq_true rfl⟩ (Nat.le_of_ble_eq_true rfl) rfl rfl rfl ?_
  refine V_if_eq (pc := 10) (tgt := 41) X (th_da dtX4_known 6 rfl) (by decide) (fun c3 => ?_) (fun c3 => ?_)
  · rw [if_pos c3] at hf
    refine V_iconst (pc := 41) (v := (-1)) X (th_da dtX4_known 21 rfl) (by decide) ?_
    exact V_iretF (pc := 42) X (th_da dtX4_known 22 rfl) hf
  · rw [if_neg c3] at hf
    refine V_iload_n (pc := 13) X (th_da dtX4_known 7 rfl) rfl ?_
    obtain ⟨u4, h4, e4, hf⟩ := th_bd_some hf
    refine V_callSi (pc := 14) (As := [.int x2]) X (th_da dtX4_known 8 rfl) (mX4_isLink l _ _ _ _ e4) wcd_X4_isLink wml_X4_82 wst_X4_isLink win_X4_isLink hd_X4_isLink ⟨Nat.le_of_ble_eq_true rfl, Nat.le_of_ble_eq_true rfl⟩ (Nat.le_of_ble_eq_true rfl) rfl ?_
    refine V_if_eq (pc := 17) (tgt := 41) X (th_da dtX4_known 9 rfl) (by decide) (fun c5 => ?_) (fun c5 => ?_)
    · rw [if_pos c5] at hf
      refine V_iconst (pc := 41) (v := (-1)) X (th_da dtX4_known 21 rfl) (by decide) ?_
      exact V_iretF (pc := 42) X (th_da dtX4_known 22 rfl) hf
    · rw [if_neg c5] at hf
      refine V_aload_n (pc := 20) X (th_da dtX4_known 10 rfl) rfl ?_
      refine V_iload_n (pc := 21) X (th_da dtX4_known 11 rfl) rfl ?_
      refine V_iload_n (pc := 22) X (th_da dtX4_known 12 rfl) rfl ?_
      obtain ⟨u6, h6, e6, hf⟩ := th_bd_some hf
      refine V_callVi (pc := 23) (q := 0) (As := [.int x1, .int x2]) X (th_da dtX4_known 13 rfl) (mX4_goesOver l _ _ _ _ _ e6) wcd_X4_goesOver wml_X4_75 wim_X4_goesOver wse_X4_goesOver win_X4_goesOver hd_X4_goesOver ⟨Nat.le_of_ble_eq_true rfl, Nat.le_of_ble_eq_true rfl⟩ (Nat.le_of_ble_eq_true rfl) rfl rfl rfl ?_
      refine V_if_eq (pc := 26) (tgt := 41) X (th_da dtX4_known 14 rfl) (by decide) (fun c7 => ?_) (fun c7 => ?_)
      · rw [if_pos c7] at hf
        refine V_iconst (pc := 41) (v := (-1)) X (th_da dtX4_known 21 rfl) (by decide) ?_
        exact V_iretF (pc := 42) X (th_da dtX4_known 22 rfl) hf
      · rw [if_neg c7] at hf
        refine V_iload_n (pc := 29) X (th_da dtX4_known 15 rfl) rfl ?_
        refine V_i2l (pc := 30) X (th_da dtX4_known 16 rfl) ?_
        refine V_lconst (pc := 31) (v := 0) X (th_da dtX4_known 17 rfl) (by decide) ?_
        refine V_ldc2 (pc := 32) (v := 2) X (th_da dtX4_known 18 rfl) wcl_X4_131 ?_
        obtain ⟨u8, h8, e8, hf⟩ := th_bd_some hf
        refine V_callSi (pc := 35) (As := [.long (Int32.toInt64 x3), .long 0, .long 2]) X (th_da dtX4_known 19 rfl) (mX4_in l _ _ _ _ _ _ e8) wcd_X4_in wml_X4_63 wst_X4_in win_X4_in hd_X4_in ⟨Nat.le_of_ble_eq_true rfl, Nat.le_of_ble_eq_true rfl⟩ (Nat.le_of_ble_eq_true rfl) rfl ?_
        refine V_if_ne (pc := 38) (tgt := 43) X (th_da dtX4_known 20 rfl) (by decide) (fun c9 => ?_) (fun c9 => ?_)
        · rw [if_pos c9] at hf
          refine V_iconst (pc := 41) (v := (-1)) X (th_da dtX4_known 21 rfl) (by decide) ?_
          exact V_iretF (pc := 42) X (th_da dtX4_known 22 rfl) hf
        · rw [if_neg c9] at hf
          refine V_iload_n (pc := 43) X (th_da dtX4_known 23 rfl) rfl ?_
          refine V_if_ne (pc := 44) (tgt := 65) X (th_da dtX4_known 24 rfl) (by decide) (fun c10 => ?_) (fun c10 => ?_)
          · rw [if_pos c10] at hf
            refine V_aload_n (pc := 47) X (th_da dtX4_known 25 rfl) rfl ?_
            refine V_getR (pc := 48) (j := 2) (t := 2) X (th_da dtX4_known 26 rfl) wfl_X4_15 iX4 rfl rfl (Nat.le_of_ble_eq_true rfl) rfl ?_
            refine V_sipush (pc := 51) (v := 243) X (th_da dtX4_known 27 rfl) (by decide) ?_
            refine V_bipush (pc := 54) (v := 10) X (th_da dtX4_known 28 rfl) (by decide) ?_
            refine V_iload_n (pc := 56) X (th_da dtX4_known 29 rfl) rfl ?_
            refine V_imul (pc := 57) X (th_da dtX4_known 30 rfl) ?_
            refine V_iadd (pc := 58) X (th_da dtX4_known 31 rfl) ?_
            refine V_iload_n (pc := 59) X (th_da dtX4_known 32 rfl) rfl ?_
            refine V_iadd (pc := 60) X (th_da dtX4_known 33 rfl) ?_
            obtain ⟨v11, e11, g11, hf⟩ := th_rd_some hf
            refine V_iald (pc := 61) X (th_da dtX4_known 34 rfl) rfl g11 e11 ?_
            refine V_goto (pc := 62) (tgt := 107) X (th_da dtX4_known 35 rfl) (by decide) ?_
            exact V_iretF (pc := 107) X (th_da dtX4_known 61 rfl) hf
          · rw [if_neg c10] at hf
            refine V_iload_n (pc := 65) X (th_da dtX4_known 36 rfl) rfl ?_
            refine V_iconst (pc := 66) (v := 1) X (th_da dtX4_known 37 rfl) (by decide) ?_
            refine V_icmp_ne (pc := 67) (tgt := 88) X (th_da dtX4_known 38 rfl) (by decide) (fun c12 => ?_) (fun c12 => ?_)
            · rw [if_pos c12] at hf
              refine V_aload_n (pc := 70) X (th_da dtX4_known 39 rfl) rfl ?_
              refine V_getR (pc := 71) (j := 2) (t := 2) X (th_da dtX4_known 40 rfl) wfl_X4_15 iX4 rfl rfl (Nat.le_of_ble_eq_true rfl) rfl ?_
              refine V_sipush (pc := 74) (v := 443) X (th_da dtX4_known 41 rfl) (by decide) ?_
              refine V_bipush (pc := 77) (v := 10) X (th_da dtX4_known 42 rfl) (by decide) ?_
              refine V_iload_n (pc := 79) X (th_da dtX4_known 43 rfl) rfl ?_
              refine V_imul (pc := 80) X (th_da dtX4_known 44 rfl) ?_
              refine V_iadd (pc := 81) X (th_da dtX4_known 45 rfl) ?_
              refine V_iload_n (pc := 82) X (th_da dtX4_known 46 rfl) rfl ?_
              refine V_iadd (pc := 83) X (th_da dtX4_known 47 rfl) ?_
              obtain ⟨v13, e13, g13, hf⟩ := th_rd_some hf
              refine V_iald (pc := 84) X (th_da dtX4_known 48 rfl) rfl g13 e13 ?_
              refine V_goto (pc := 85) (tgt := 107) X (th_da dtX4_known 49 rfl) (by decide) ?_
              exact V_iretF (pc := 107) X (th_da dtX4_known 61 rfl) hf
            · rw [if_neg c12] at hf
              refine V_aload_n (pc := 88) X (th_da dtX4_known 50 rfl) rfl ?_
              refine V_iload_n (pc := 89) X (th_da dtX4_known 51 rfl) rfl ?_
              refine V_iload_n (pc := 90) X (th_da dtX4_known 52 rfl) rfl ?_
              obtain ⟨u14, h14, e14, hf⟩ := th_bd_some hf
              refine V_callVi (pc := 91) (q := 0) (As := [.int x1, .int x2]) X (th_da dtX4_known 53 rfl) (mX4_elsewhere l _ _ _ _ _ e14) wcd_X4_elsewhere wml_X4_148 wim_X4_elsewhere wse_X4_elsewhere win_X4_elsewhere hd_X4_elsewhere ⟨Nat.le_of_ble_eq_true rfl, Nat.le_of_ble_eq_true rfl⟩ (Nat.le_of_ble_eq_true rfl) rfl rfl rfl ?_
              refine V_aload_n (pc := 94) X (th_da dtX4_known 54 rfl) rfl ?_
              refine V_iload_n (pc := 95) X (th_da dtX4_known 55 rfl) rfl ?_
              obtain ⟨u15, h15, e15, hf⟩ := th_bd_some hf
              refine V_callVi (pc := 96) (q := 0) (As := [.int x2]) X (th_da dtX4_known 56 rfl) (mX4_advertises l _ _ _ _ e15) wcd_X4_advertises wml_X4_159 wim_X4_advertises wse_X4_advertises win_X4_advertises hd_X4_advertises ⟨Nat.le_of_ble_eq_true rfl, Nat.le_of_ble_eq_true rfl⟩ (Nat.le_of_ble_eq_true rfl) rfl rfl rfl ?_
              refine V_icmp_ge (pc := 99) (tgt := 106) X (th_da dtX4_known 57 rfl) (by decide) (fun c16 => ?_) (fun c16 => ?_)
              · rw [if_pos c16] at hf
                refine V_iconst (pc := 102) (v := 1) X (th_da dtX4_known 58 rfl) (by decide) ?_
                refine V_goto (pc := 103) (tgt := 107) X (th_da dtX4_known 59 rfl) (by decide) ?_
                exact V_iretF (pc := 107) X (th_da dtX4_known 61 rfl) hf
              · rw [if_neg c16] at hf
                refine V_iconst (pc := 106) (v := 0) X (th_da dtX4_known 60 rfl) (by decide) ?_
                exact V_iretF (pc := 107) X (th_da dtX4_known 61 rfl) hf
end
def fX4_bookedOf_c4 : Nat → Int32 → Int32 → Int32 → th_H → Option (Int32 × th_H)
  | 0, _, _, _, _ => none
  | n + 1, y1, y2, y3, h =>
    if (y3 < 20 : Prop) then
      th_bd (fX4_goesOver y3 y1 h) fun u2 h2 =>
      if (u2 = 0 : Prop) then
        fX4_bookedOf_c4 n y1 (y2 + 0) (y3 + 1) h2
      else
        th_bd (fX4_at y3 h2) fun u4 h4 =>
        th_rd h4 2 643 (u4 + 7) fun v5 =>
        th_bd (fX4_rate y3 v5 h4) fun u6 h6 =>
        fX4_bookedOf_c4 n y1 (y2 + u6) (y3 + 1) h6
    else
      some (y2, h)
def fX4_bookedOf (x1 : Int32) (h : th_H) : Option (Int32 × th_H) :=
  fX4_bookedOf_c4 1000 x1 0 0 h
def tbX4_bookedOf : List (Nat × Instr × Nat) := [(0, .iconst 0, 1), (1, .istore_n 2, 1), (2, .iconst 0, 1), (3, .istore_n 3, 1), (4, .iload_n 3, 1), (5, .bipush 20, 2), (7, .if_icmp .ge 42, 3), (10, .iload_n 2, 1), (11, .aload_n 0, 1), (12, .iload_n 3, 1), (13, .iload_n 1, 1), (14, .invokevirtual 75, 3), (17, .ifCond .eq 23, 3), (20, .aload_n 0, 1), (21, .iload_n 3, 1), (22, .aload_n 0, 1), (23, .getfield 15, 3), (26, .iload_n 3, 1), (27, .invokestatic 71, 3), (30, .bipush 7, 2), (32, .iadd, 1), (33, .iaload, 1), (34, .invokevirtual 151, 3), (37, .goto 4, 3), (40, .iconst 0, 1), (41, .iadd, 1), (42, .istore_n 2, 1), (43, .iinc 3 1, 3), (46, .goto (-42), 3), (49, .iload_n 2, 1), (50, .ireturn, 1)]
theorem dtX4_bookedOf : th_dec cX4_bookedOf tbX4_bookedOf = true := by decide +kernel
section
variable {p0 : Program} {l : Launch} {e : Env} {s : State} {m : MethodId} {args : Array Value} {below : List Frame} {meth : Method} {c : Code} {D : va_G} {cI cZ : ClassId} {ad : Nat → Nat} {rr : Int32} {hh : th_H}
set_option maxHeartbeats 4000000 in
set_option maxRecDepth 100000 in
theorem tX4_bookedOf_c4 (X : th_X p0 s m args meth c D cI cZ ad LM 4 RX4 cX4_bookedOf (some .int)) : ∀ (n : Nat) (y1 : Int32) (y2 : Int32) (y3 : Int32) (h : th_H), fX4_bookedOf_c4 n y1 y2 y3 h = some (rr, hh) → th_V p0 l e { frames := 2, cells := 0, slots := 0, locals := 43 } s m args below meth c D cI cZ ad LM 4 (some (.int rr)) hh 4 [.ref 0, .int y1, .int y2, .int y3] [] h := by
  intro n
  induction n with
  | zero => intro y1 y2 y3 h hf; cases hf
  | succ n ih =>
    intro y1 y2 y3 h hf
    rw [fX4_bookedOf_c4] at hf
    refine V_iload_n (pc := 4) X (th_da dtX4_bookedOf 4 rfl) rfl ?_
    refine V_bipush (pc := 5) (v := 20) X (th_da dtX4_bookedOf 5 rfl) (by decide) ?_
    refine V_icmp_ge (pc := 7) (tgt := 49) X (th_da dtX4_bookedOf 6 rfl) (by decide) (fun c1 => ?_) (fun c1 => ?_)
    · rw [if_pos c1] at hf
      refine V_iload_n (pc := 10) X (th_da dtX4_bookedOf 7 rfl) rfl ?_
      refine V_aload_n (pc := 11) X (th_da dtX4_bookedOf 8 rfl) rfl ?_
      refine V_iload_n (pc := 12) X (th_da dtX4_bookedOf 9 rfl) rfl ?_
      refine V_iload_n (pc := 13) X (th_da dtX4_bookedOf 10 rfl) rfl ?_
      obtain ⟨u2, h2, e2, hf⟩ := th_bd_some hf
      refine V_callVi (pc := 14) (q := 0) (As := [.int y3, .int y1]) X (th_da dtX4_bookedOf 11 rfl) (mX4_goesOver l _ _ _ _ _ e2) wcd_X4_goesOver wml_X4_75 wim_X4_goesOver wse_X4_goesOver win_X4_goesOver hd_X4_goesOver ⟨Nat.le_of_ble_eq_true rfl, Nat.le_of_ble_eq_true rfl⟩ (Nat.le_of_ble_eq_true rfl) rfl rfl rfl ?_
      refine V_if_eq (pc := 17) (tgt := 40) X (th_da dtX4_bookedOf 12 rfl) (by decide) (fun c3 => ?_) (fun c3 => ?_)
      · rw [if_pos c3] at hf
        refine V_iconst (pc := 40) (v := 0) X (th_da dtX4_bookedOf 24 rfl) (by decide) ?_
        refine V_iadd (pc := 41) X (th_da dtX4_bookedOf 25 rfl) ?_
        refine V_istore_n (pc := 42) (ls2 := [.ref 0, .int y1, .int (y2 + 0), .int y3]) X (th_da dtX4_bookedOf 26 rfl) (Nat.le_of_ble_eq_true rfl) rfl rfl ?_
        refine V_iinc (pc := 43) (v := y3 + 1) (ls2 := [.ref 0, .int y1, .int (y2 + 0), .int (y3 + 1)]) X (th_da dtX4_bookedOf 27 rfl) rfl rfl (Nat.le_of_ble_eq_true rfl) rfl rfl ?_
        refine V_goto (pc := 46) (tgt := 4) X (th_da dtX4_bookedOf 28 rfl) (by decide) ?_
        exact ih _ _ _ _ hf
      · rw [if_neg c3] at hf
        refine V_aload_n (pc := 20) X (th_da dtX4_bookedOf 13 rfl) rfl ?_
        refine V_iload_n (pc := 21) X (th_da dtX4_bookedOf 14 rfl) rfl ?_
        refine V_aload_n (pc := 22) X (th_da dtX4_bookedOf 15 rfl) rfl ?_
        refine V_getR (pc := 23) (j := 2) (t := 2) X (th_da dtX4_bookedOf 16 rfl) wfl_X4_15 iX4 rfl rfl (Nat.le_of_ble_eq_true rfl) rfl ?_
        refine V_iload_n (pc := 26) X (th_da dtX4_bookedOf 17 rfl) rfl ?_
        obtain ⟨u4, h4, e4, hf⟩ := th_bd_some hf
        refine V_callSi (pc := 27) (As := [.int y3]) X (th_da dtX4_bookedOf 18 rfl) (mX4_at l _ _ _ _ e4) wcd_X4_at wml_X4_71 wst_X4_at win_X4_at hd_X4_at ⟨Nat.le_of_ble_eq_true rfl, Nat.le_of_ble_eq_true rfl⟩ (Nat.le_of_ble_eq_true rfl) rfl ?_
        refine V_bipush (pc := 30) (v := 7) X (th_da dtX4_bookedOf 19 rfl) (by decide) ?_
        refine V_iadd (pc := 32) X (th_da dtX4_bookedOf 20 rfl) ?_
        obtain ⟨v5, e5, g5, hf⟩ := th_rd_some hf
        refine V_iald (pc := 33) X (th_da dtX4_bookedOf 21 rfl) rfl g5 e5 ?_
        obtain ⟨u6, h6, e6, hf⟩ := th_bd_some hf
        refine V_callVi (pc := 34) (q := 0) (As := [.int y3, .int v5]) X (th_da dtX4_bookedOf 22 rfl) (mX4_rate l _ _ _ _ _ e6) wcd_X4_rate wml_X4_151 wim_X4_rate wse_X4_rate win_X4_rate hd_X4_rate ⟨Nat.le_of_ble_eq_true rfl, Nat.le_of_ble_eq_true rfl⟩ (Nat.le_of_ble_eq_true rfl) rfl rfl rfl ?_
        refine V_goto (pc := 37) (tgt := 41) X (th_da dtX4_bookedOf 23 rfl) (by decide) ?_
        refine V_iadd (pc := 41) X (th_da dtX4_bookedOf 25 rfl) ?_
        refine V_istore_n (pc := 42) (ls2 := [.ref 0, .int y1, .int (y2 + u6), .int y3]) X (th_da dtX4_bookedOf 26 rfl) (Nat.le_of_ble_eq_true rfl) rfl rfl ?_
        refine V_iinc (pc := 43) (v := y3 + 1) (ls2 := [.ref 0, .int y1, .int (y2 + u6), .int (y3 + 1)]) X (th_da dtX4_bookedOf 27 rfl) rfl rfl (Nat.le_of_ble_eq_true rfl) rfl rfl ?_
        refine V_goto (pc := 46) (tgt := 4) X (th_da dtX4_bookedOf 28 rfl) (by decide) ?_
        exact ih _ _ _ _ hf
    · rw [if_neg c1] at hf
      refine V_iload_n (pc := 49) X (th_da dtX4_bookedOf 29 rfl) rfl ?_
      exact V_iretF (pc := 50) X (th_da dtX4_bookedOf 30 rfl) hf
set_option maxHeartbeats 4000000 in
set_option maxRecDepth 100000 in
theorem mX4_bookedOf (l : Launch) (x1 : Int32) (h : th_H) (rr : Int32) (hh : th_H) (hf : fX4_bookedOf x1 h = some (rr, hh)) : th_MI l LM yX4_bookedOf cX4_bookedOf 4 (some .int) 2 43 [.ref 0, .int x1] h (some (.int rr)) hh := by
  refine th_MI_of (ls := [.ref 0, .int x1, .null, .null]) RX4 rfl rfl rfl (Nat.le_of_ble_eq_true rfl) ?_
  intro p0 e s m args below meth c D cI cZ ad X
  unfold fX4_bookedOf at hf
  refine V_iconst (pc := 0) (v := 0) X (th_da dtX4_bookedOf 0 rfl) (by decide) ?_
  refine V_istore_n (pc := 1) (ls2 := [.ref 0, .int x1, .int 0, .null]) X (th_da dtX4_bookedOf 1 rfl) (Nat.le_of_ble_eq_true rfl) rfl rfl ?_
  refine V_iconst (pc := 2) (v := 0) X (th_da dtX4_bookedOf 2 rfl) (by decide) ?_
  refine V_istore_n (pc := 3) (ls2 := [.ref 0, .int x1, .int 0, .int 0]) X (th_da dtX4_bookedOf 3 rfl) (Nat.le_of_ble_eq_true rfl) rfl rfl ?_
  exact tX4_bookedOf_c4 X _ _ _ _ _ hf
end
def fX4_booked (x1 : Int32) (h : th_H) : Option (Int32 × th_H) :=
  th_st (th_up h 0 0 0) fun h1 =>
  th_bd (fX4_isLink x1 h1) fun u2 h2 =>
  if (u2 = 0 : Prop) then
    some ((-1), h2)
  else
    th_bd (fX4_bookedOf x1 h2) fun u4 h4 =>
    some (u4, h4)
def tbX4_booked : List (Nat × Instr × Nat) := [(0, .aload_n 0, 1), (1, .iconst 0, 1), (2, .putfield 55, 3), (5, .iload_n 1, 1), (6, .invokestatic 82, 3), (9, .ifCond .eq 11, 3), (12, .aload_n 0, 1), (13, .iload_n 1, 1), (14, .invokevirtual 239, 3), (17, .goto 4, 3), (20, .iconst (-1), 1), (21, .ireturn, 1)]
theorem dtX4_booked : th_dec cX4_booked tbX4_booked = true := by decide +kernel
section
variable {p0 : Program} {l : Launch} {e : Env} {s : State} {m : MethodId} {args : Array Value} {below : List Frame} {meth : Method} {c : Code} {D : va_G} {cI cZ : ClassId} {ad : Nat → Nat} {rr : Int32} {hh : th_H}
set_option maxHeartbeats 4000000 in
set_option maxRecDepth 100000 in
theorem mX4_booked (l : Launch) (x1 : Int32) (h : th_H) (rr : Int32) (hh : th_H) (hf : fX4_booked x1 h = some (rr, hh)) : th_MI l LM yX4_booked cX4_booked 2 (some .int) 3 66 [.ref 0, .int x1] h (some (.int rr)) hh := by
  refine th_MI_of (ls := [.ref 0, .int x1]) RX4 rfl rfl rfl (Nat.le_of_ble_eq_true rfl) ?_
  intro p0 e s m args below meth c D cI cZ ad X
  unfold fX4_booked at hf
  refine V_aload_n (pc := 0) X (th_da dtX4_booked 0 rfl) rfl ?_
  refine V_iconst (pc := 1) (v := 0) X (th_da dtX4_booked 1 rfl) (by decide) ?_
  obtain ⟨h1, e1, hf⟩ := th_st_some hf
  refine V_putI (pc := 2) (j := 0) (ty := .int) X (th_da dtX4_booked 2 rfl) wfl_X4_55 iX4 rfl rfl (Nat.le_of_ble_eq_true rfl) rfl tyX4 tyX4_ok nmX4 rfl (tyX4_ok 0 (Nat.le_of_ble_eq_true rfl)) rfl rfl e1 ?_
  refine V_iload_n (pc := 5) X (th_da dtX4_booked 3 rfl) rfl ?_
  obtain ⟨u2, h2, e2, hf⟩ := th_bd_some hf
  refine V_callSi (pc := 6) (As := [.int x1]) X (th_da dtX4_booked 4 rfl) (mX4_isLink l _ _ _ _ e2) wcd_X4_isLink wml_X4_82 wst_X4_isLink win_X4_isLink hd_X4_isLink ⟨Nat.le_of_ble_eq_true rfl, Nat.le_of_ble_eq_true rfl⟩ (Nat.le_of_ble_eq_true rfl) rfl ?_
  refine V_if_eq (pc := 9) (tgt := 20) X (th_da dtX4_booked 5 rfl) (by decide) (fun c3 => ?_) (fun c3 => ?_)
  · rw [if_pos c3] at hf
    refine V_iconst (pc := 20) (v := (-1)) X (th_da dtX4_booked 10 rfl) (by decide) ?_
    exact V_iretF (pc := 21) X (th_da dtX4_booked 11 rfl) hf
  · rw [if_neg c3] at hf
    refine V_aload_n (pc := 12) X (th_da dtX4_booked 6 rfl) rfl ?_
    refine V_iload_n (pc := 13) X (th_da dtX4_booked 7 rfl) rfl ?_
    obtain ⟨u4, h4, e4, hf⟩ := th_bd_some hf
    refine V_callVi (pc := 14) (q := 0) (As := [.int x1]) X (th_da dtX4_booked 8 rfl) (mX4_bookedOf l _ _ _ _ e4) wcd_X4_bookedOf wml_X4_239 wim_X4_bookedOf wse_X4_bookedOf win_X4_bookedOf hd_X4_bookedOf ⟨Nat.le_of_ble_eq_true rfl, Nat.le_of_ble_eq_true rfl⟩ (Nat.le_of_ble_eq_true rfl) rfl rfl rfl ?_
    refine V_goto (pc := 17) (tgt := 21) X (th_da dtX4_booked 9 rfl) (by decide) ?_
    exact V_iretF (pc := 21) X (th_da dtX4_booked 11 rfl) hf
end
def fX4_overbooked_c4 : Nat → Int32 → Int32 → th_H → Option (Int32 × th_H)
  | 0, _, _, _ => none
  | n + 1, y1, y2, h =>
    if (y2 < 10 : Prop) then
      th_bd (fX4_bookedOf y2 h) fun u2 h2 =>
      th_rd h2 2 643 ((3 : Int32) + y2) fun v3 =>
      if (v3 < u2 : Prop) then
        fX4_overbooked_c4 n (y1 ||| ((1 : Int32) <<< (y2 &&& 31))) (y2 + 1) h2
      else
        fX4_overbooked_c4 n (y1 ||| 0) (y2 + 1) h2
    else
      some (y1, h)
def fX4_overbooked (h : th_H) : Option (Int32 × th_H) :=
  fX4_overbooked_c4 1000 0 0 h
def tbX4_overbooked : List (Nat × Instr × Nat) := [(0, .iconst 0, 1), (1, .istore_n 1, 1), (2, .iconst 0, 1), (3, .istore_n 2, 1), (4, .iload_n 2, 1), (5, .bipush 10, 2), (7, .if_icmp .ge 35, 3), (10, .iload_n 1, 1), (11, .aload_n 0, 1), (12, .iload_n 2, 1), (13, .invokevirtual 239, 3), (16, .aload_n 0, 1), (17, .getfield 15, 3), (20, .iconst 3, 1), (21, .iload_n 2, 1), (22, .iadd, 1), (23, .iaload, 1), (24, .if_icmp .le 9, 3), (27, .iconst 1, 1), (28, .iload_n 2, 1), (29, .ishl, 1), (30, .goto 4, 3), (33, .iconst 0, 1), (34, .ior, 1), (35, .istore_n 1, 1), (36, .iinc 2 1, 3), (39, .goto (-35), 3), (42, .iload_n 1, 1), (43, .ireturn, 1)]
theorem dtX4_overbooked : th_dec cX4_overbooked tbX4_overbooked = true := by decide +kernel
section
variable {p0 : Program} {l : Launch} {e : Env} {s : State} {m : MethodId} {args : Array Value} {below : List Frame} {meth : Method} {c : Code} {D : va_G} {cI cZ : ClassId} {ad : Nat → Nat} {rr : Int32} {hh : th_H}
set_option maxHeartbeats 4000000 in
set_option maxRecDepth 100000 in
theorem tX4_overbooked_c4 (X : th_X p0 s m args meth c D cI cZ ad LM 3 RX4 cX4_overbooked (some .int)) : ∀ (n : Nat) (y1 : Int32) (y2 : Int32) (h : th_H), fX4_overbooked_c4 n y1 y2 h = some (rr, hh) → th_V p0 l e { frames := 3, cells := 0, slots := 0, locals := 66 } s m args below meth c D cI cZ ad LM 3 (some (.int rr)) hh 4 [.ref 0, .int y1, .int y2] [] h := by
  intro n
  induction n with
  | zero => intro y1 y2 h hf; cases hf
  | succ n ih =>
    intro y1 y2 h hf
    rw [fX4_overbooked_c4] at hf
    refine V_iload_n (pc := 4) X (th_da dtX4_overbooked 4 rfl) rfl ?_
    refine V_bipush (pc := 5) (v := 10) X (th_da dtX4_overbooked 5 rfl) (by decide) ?_
    refine V_icmp_ge (pc := 7) (tgt := 42) X (th_da dtX4_overbooked 6 rfl) (by decide) (fun c1 => ?_) (fun c1 => ?_)
    · rw [if_pos c1] at hf
      refine V_iload_n (pc := 10) X (th_da dtX4_overbooked 7 rfl) rfl ?_
      refine V_aload_n (pc := 11) X (th_da dtX4_overbooked 8 rfl) rfl ?_
      refine V_iload_n (pc := 12) X (th_da dtX4_overbooked 9 rfl) rfl ?_
      obtain ⟨u2, h2, e2, hf⟩ := th_bd_some hf
      refine V_callVi (pc := 13) (q := 0) (As := [.int y2]) X (th_da dtX4_overbooked 10 rfl) (mX4_bookedOf l _ _ _ _ e2) wcd_X4_bookedOf wml_X4_239 wim_X4_bookedOf wse_X4_bookedOf win_X4_bookedOf hd_X4_bookedOf ⟨Nat.le_of_ble_eq_true rfl, Nat.le_of_ble_eq_true rfl⟩ (Nat.le_of_ble_eq_true rfl) rfl rfl rfl ?_
      refine V_aload_n (pc := 16) X (th_da dtX4_overbooked 11 rfl) rfl ?_
      refine V_getR (pc := 17) (j := 2) (t := 2) X (th_da dtX4_overbooked 12 rfl) wfl_X4_15 iX4 rfl rfl (Nat.le_of_ble_eq_true rfl) rfl ?_
      refine V_iconst (pc := 20) (v := 3) X (th_da dtX4_overbooked 13 rfl) (by decide) ?_
      refine V_iload_n (pc := 21) X (th_da dtX4_overbooked 14 rfl) rfl ?_
      refine V_iadd (pc := 22) X (th_da dtX4_overbooked 15 rfl) ?_
      obtain ⟨v3, e3, g3, hf⟩ := th_rd_some hf
      refine V_iald (pc := 23) X (th_da dtX4_overbooked 16 rfl) rfl g3 e3 ?_
      refine V_icmp_le (pc := 24) (tgt := 33) X (th_da dtX4_overbooked 17 rfl) (by decide) (fun c4 => ?_) (fun c4 => ?_)
      · rw [if_pos c4] at hf
        refine V_iconst (pc := 27) (v := 1) X (th_da dtX4_overbooked 18 rfl) (by decide) ?_
        refine V_iload_n (pc := 28) X (th_da dtX4_overbooked 19 rfl) rfl ?_
        refine V_ishl (pc := 29) X (th_da dtX4_overbooked 20 rfl) ?_
        refine V_goto (pc := 30) (tgt := 34) X (th_da dtX4_overbooked 21 rfl) (by decide) ?_
        refine V_ior (pc := 34) X (th_da dtX4_overbooked 23 rfl) ?_
        refine V_istore_n (pc := 35) (ls2 := [.ref 0, .int (y1 ||| ((1 : Int32) <<< (y2 &&& 31))), .int y2]) X (th_da dtX4_overbooked 24 rfl) (Nat.le_of_ble_eq_true rfl) rfl rfl ?_
        refine V_iinc (pc := 36) (v := y2 + 1) (ls2 := [.ref 0, .int (y1 ||| ((1 : Int32) <<< (y2 &&& 31))), .int (y2 + 1)]) X (th_da dtX4_overbooked 25 rfl) rfl rfl (Nat.le_of_ble_eq_true rfl) rfl rfl ?_
        refine V_goto (pc := 39) (tgt := 4) X (th_da dtX4_overbooked 26 rfl) (by decide) ?_
        exact ih _ _ _ hf
      · rw [if_neg c4] at hf
        refine V_iconst (pc := 33) (v := 0) X (th_da dtX4_overbooked 22 rfl) (by decide) ?_
        refine V_ior (pc := 34) X (th_da dtX4_overbooked 23 rfl) ?_
        refine V_istore_n (pc := 35) (ls2 := [.ref 0, .int (y1 ||| 0), .int y2]) X (th_da dtX4_overbooked 24 rfl) (Nat.le_of_ble_eq_true rfl) rfl rfl ?_
        refine V_iinc (pc := 36) (v := y2 + 1) (ls2 := [.ref 0, .int (y1 ||| 0), .int (y2 + 1)]) X (th_da dtX4_overbooked 25 rfl) rfl rfl (Nat.le_of_ble_eq_true rfl) rfl rfl ?_
        refine V_goto (pc := 39) (tgt := 4) X (th_da dtX4_overbooked 26 rfl) (by decide) ?_
        exact ih _ _ _ hf
    · rw [if_neg c1] at hf
      refine V_iload_n (pc := 42) X (th_da dtX4_overbooked 27 rfl) rfl ?_
      exact V_iretF (pc := 43) X (th_da dtX4_overbooked 28 rfl) hf
set_option maxHeartbeats 4000000 in
set_option maxRecDepth 100000 in
theorem mX4_overbooked (l : Launch) (h : th_H) (rr : Int32) (hh : th_H) (hf : fX4_overbooked h = some (rr, hh)) : th_MI l LM yX4_overbooked cX4_overbooked 3 (some .int) 3 66 [.ref 0] h (some (.int rr)) hh := by
  refine th_MI_of (ls := [.ref 0, .null, .null]) RX4 rfl rfl rfl (Nat.le_of_ble_eq_true rfl) ?_
  intro p0 e s m args below meth c D cI cZ ad X
  unfold fX4_overbooked at hf
  refine V_iconst (pc := 0) (v := 0) X (th_da dtX4_overbooked 0 rfl) (by decide) ?_
  refine V_istore_n (pc := 1) (ls2 := [.ref 0, .int 0, .null]) X (th_da dtX4_overbooked 1 rfl) (Nat.le_of_ble_eq_true rfl) rfl rfl ?_
  refine V_iconst (pc := 2) (v := 0) X (th_da dtX4_overbooked 2 rfl) (by decide) ?_
  refine V_istore_n (pc := 3) (ls2 := [.ref 0, .int 0, .int 0]) X (th_da dtX4_overbooked 3 rfl) (Nat.le_of_ble_eq_true rfl) rfl rfl ?_
  exact tX4_overbooked_c4 X _ _ _ _ hf
end
def fX4_over (h : th_H) : Option (Int32 × th_H) :=
  th_st (th_up h 0 0 0) fun h1 =>
  th_bd (fX4_overbooked h1) fun u2 h2 =>
  some (u2, h2)
def tbX4_over : List (Nat × Instr × Nat) := [(0, .aload_n 0, 1), (1, .iconst 0, 1), (2, .putfield 55, 3), (5, .aload_n 0, 1), (6, .invokevirtual 242, 3), (9, .ireturn, 1)]
theorem dtX4_over : th_dec cX4_over tbX4_over = true := by decide +kernel
section
variable {p0 : Program} {l : Launch} {e : Env} {s : State} {m : MethodId} {args : Array Value} {below : List Frame} {meth : Method} {c : Code} {D : va_G} {cI cZ : ClassId} {ad : Nat → Nat} {rr : Int32} {hh : th_H}
set_option maxHeartbeats 4000000 in
set_option maxRecDepth 100000 in
theorem mX4_over (l : Launch) (h : th_H) (rr : Int32) (hh : th_H) (hf : fX4_over h = some (rr, hh)) : th_MI l LM yX4_over cX4_over 1 (some .int) 4 88 [.ref 0] h (some (.int rr)) hh := by
  refine th_MI_of (ls := [.ref 0]) RX4 rfl rfl rfl (Nat.le_of_ble_eq_true rfl) ?_
  intro p0 e s m args below meth c D cI cZ ad X
  unfold fX4_over at hf
  refine V_aload_n (pc := 0) X (th_da dtX4_over 0 rfl) rfl ?_
  refine V_iconst (pc := 1) (v := 0) X (th_da dtX4_over 1 rfl) (by decide) ?_
  obtain ⟨h1, e1, hf⟩ := th_st_some hf
  refine V_putI (pc := 2) (j := 0) (ty := .int) X (th_da dtX4_over 2 rfl) wfl_X4_55 iX4 rfl rfl (Nat.le_of_ble_eq_true rfl) rfl tyX4 tyX4_ok nmX4 rfl (tyX4_ok 0 (Nat.le_of_ble_eq_true rfl)) rfl rfl e1 ?_
  refine V_aload_n (pc := 5) X (th_da dtX4_over 3 rfl) rfl ?_
  obtain ⟨u2, h2, e2, hf⟩ := th_bd_some hf
  refine V_callVi (pc := 6) (q := 0) (As := []) X (th_da dtX4_over 4 rfl) (mX4_overbooked l _ _ _ e2) wcd_X4_overbooked wml_X4_242 wim_X4_overbooked wse_X4_overbooked win_X4_overbooked hd_X4_overbooked ⟨Nat.le_of_ble_eq_true rfl, Nat.le_of_ble_eq_true rfl⟩ (Nat.le_of_ble_eq_true rfl) rfl rfl rfl ?_
  exact V_iretF (pc := 9) X (th_da dtX4_over 5 rfl) hf
end
def fX4_settling_c78 : Nat → Int32 → Int32 → Int32 → Int32 → Int32 → Int32 → th_H → Option (Int32 × th_H)
  | 0, _, _, _, _, _, _, _ => none
  | n + 1, y1, y2, y3, y4, y5, y6, h =>
    if (y6 < 20 : Prop) then
      th_bd (fX4_isFlow y6 h) fun u2 h2 =>
      if (u2 = 0 : Prop) then
        fX4_settling_c78 n y1 y2 y3 y4 y5 (y6 + 1) h2
      else
        th_bd (fX4_at y6 h2) fun u4 h4 =>
        th_rd h4 2 643 (u4 + 7) fun v5 =>
        th_rd h4 7 20 y6 fun v6 =>
        if (v5 = v6 : Prop) then
          fX4_settling_c78 n y1 y2 y3 y4 y5 (y6 + 1) h4
        else
          fX4_settling_c78 n y1 y2 y3 y4 0 (y6 + 1) h4
    else
      th_bd (fX4_endThought h) fun _u8 h8 =>
      if (y1 = 0 : Prop) then
        if (y4 = 0 : Prop) then
          some (61, h8)
        else
          some (y2, h8)
      else
        if (y1 = 1 : Prop) then
          some (y3, h8)
        else
          some (y5, h8)
def fX4_settling_c30 : Nat → Int32 → Int32 → Int32 → Int32 → th_H → Option (Int32 × th_H)
  | 0, _, _, _, _, _ => none
  | n + 1, y1, y2, y3, y4, h =>
    if (y2 < 60 : Prop) then
      if (y4 = 0 : Prop) then
        th_bd (fX4_round h) fun u3 h3 =>
        th_bd (fX4_overbooked h3) fun u4 h4 =>
        if (u4 = 0 : Prop) then
          fX4_settling_c30 n y1 (y2 + 1) (y3 + 0) u3 h4
        else
          fX4_settling_c30 n y1 (y2 + 1) (y3 + 1) u3 h4
      else
        th_bd (fX4_layFair h) fun _u6 h6 =>
        fX4_settling_c78 1000 y1 y2 y3 y4 1 0 h6
    else
      th_bd (fX4_layFair h) fun _u7 h7 =>
      fX4_settling_c78 1000 y1 y2 y3 y4 1 0 h7
def fX4_settling (x1 : Int32) (h : th_H) : Option (Int32 × th_H) :=
  th_st (th_up h 0 0 0) fun h1 =>
  th_bd (fX4_in (Int32.toInt64 x1) 0 2 h1) fun u2 h2 =>
  if (u2 = 0 : Prop) then
    some ((-1), h2)
  else
    th_bd (fX4_think h2) fun _u4 h4 =>
    fX4_settling_c30 1000 x1 0 0 0 h4
def tbX4_settling : List (Nat × Instr × Nat) := [(0, .aload_n 0, 1), (1, .iconst 0, 1), (2, .putfield 55, 3), (5, .iload_n 1, 1), (6, .i2l, 1), (7, .lconst 0, 1), (8, .ldc2_w 131, 3), (11, .invokestatic 63, 3), (14, .ifCond .ne 5, 3), (17, .iconst (-1), 1), (18, .ireturn, 1), (19, .aload_n 0, 1), (20, .invokevirtual 245, 3), (23, .iconst 0, 1), (24, .istore_n 2, 1), (25, .iconst 0, 1), (26, .istore_n 3, 1), (27, .iconst 0, 1), (28, .istore 4, 2), (30, .iload_n 2, 1), (31, .bipush 60, 2), (33, .if_icmp .ge 35, 3), (36, .iload 4, 2), (38, .ifCond .ne 30, 3), (41, .aload_n 0, 1), (42, .invokevirtual 181, 3), (45, .istore 4, 2), (47, .iload_n 3, 1), (48, .aload_n 0, 1), (49, .invokevirtual 242, 3), (52, .ifCond .eq 7, 3), (55, .iconst 1, 1), (56, .goto 4, 3), (59, .iconst 0, 1), (60, .iadd, 1), (61, .istore_n 3, 1), (62, .iinc 2 1, 3), (65, .goto (-35), 3), (68, .aload_n 0, 1), (69, .invokevirtual 207, 3), (72, .iconst 1, 1), (73, .istore 5, 2), (75, .iconst 0, 1), (76, .istore 6, 2), (78, .iload 6, 2), (80, .bipush 20, 2), (82, .if_icmp .ge 49, 3), (85, .aload_n 0, 1), (86, .iload 6, 2), (88, .invokevirtual 125, 3), (91, .ifCond .eq 30, 3), (94, .aload_n 0, 1), (95, .getfield 15, 3), (98, .iload 6, 2), (100, .invokestatic 71, 3), (103, .bipush 7, 2), (105, .iadd, 1), (106, .iaload, 1), (107, .aload_n 0, 1), (108, .getfield 31, 3), (111, .iload 6, 2), (113, .iaload, 1), (114, .if_icmp .eq 7, 3), (117, .iconst 0, 1), (118, .goto 5, 3), (121, .iload 5, 2), (123, .istore 5, 2), (125, .iinc 6 1, 3), (128, .goto (-50), 3), (131, .aload_n 0, 1), (132, .invokevirtual 248, 3), (135, .iload_n 1, 1), (136, .ifCond .ne 17, 3), (139, .iload 4, 2), (141, .ifCond .eq 7, 3), (144, .iload_n 2, 1), (145, .goto 19, 3), (148, .bipush 61, 2), (150, .goto 14, 3), (153, .iload_n 1, 1), (154, .iconst 1, 1), (155, .if_icmp .ne 7, 3), (158, .iload_n 3, 1), (159, .goto 5, 3), (162, .iload 5, 2), (164, .ireturn, 1)]
theorem dtX4_settling : th_dec cX4_settling tbX4_settling = true := by decide +kernel
section
variable {p0 : Program} {l : Launch} {e : Env} {s : State} {m : MethodId} {args : Array Value} {below : List Frame} {meth : Method} {c : Code} {D : va_G} {cI cZ : ClassId} {ad : Nat → Nat} {rr : Int32} {hh : th_H}
set_option maxHeartbeats 4000000 in
set_option maxRecDepth 100000 in
theorem tX4_settling_c78 (X : th_X p0 s m args meth c D cI cZ ad LM 7 RX4 cX4_settling (some .int)) : ∀ (n : Nat) (y1 : Int32) (y2 : Int32) (y3 : Int32) (y4 : Int32) (y5 : Int32) (y6 : Int32) (h : th_H), fX4_settling_c78 n y1 y2 y3 y4 y5 y6 h = some (rr, hh) → th_V p0 l e { frames := 7, cells := 0, slots := 0, locals := 160 } s m args below meth c D cI cZ ad LM 7 (some (.int rr)) hh 78 [.ref 0, .int y1, .int y2, .int y3, .int y4, .int y5, .int y6] [] h := by
  intro n
  induction n with
  | zero => intro y1 y2 y3 y4 y5 y6 h hf; cases hf
  | succ n ih =>
    intro y1 y2 y3 y4 y5 y6 h hf
    rw [fX4_settling_c78] at hf
    refine V_iload (pc := 78) X (th_da dtX4_settling 44 rfl) rfl ?_
    refine V_bipush (pc := 80) (v := 20) X (th_da dtX4_settling 45 rfl) (by decide) ?_
    refine V_icmp_ge (pc := 82) (tgt := 131) X (th_da dtX4_settling 46 rfl) (by decide) (fun c1 => ?_) (fun c1 => ?_)
    · rw [if_pos c1] at hf
      refine V_aload_n (pc := 85) X (th_da dtX4_settling 47 rfl) rfl ?_
      refine V_iload (pc := 86) X (th_da dtX4_settling 48 rfl) rfl ?_
      obtain ⟨u2, h2, e2, hf⟩ := th_bd_some hf
      refine V_callVi (pc := 88) (q := 0) (As := [.int y6]) X (th_da dtX4_settling 49 rfl) (mX4_isFlow l _ _ _ _ e2) wcd_X4_isFlow wml_X4_125 wim_X4_isFlow wse_X4_isFlow win_X4_isFlow hd_X4_isFlow ⟨Nat.le_of_ble_eq_true rfl, Nat.le_of_ble_eq_true rfl⟩ (Nat.le_of_ble_eq_true rfl) rfl rfl rfl ?_
      refine V_if_eq (pc := 91) (tgt := 121) X (th_da dtX4_settling 50 rfl) (by decide) (fun c3 => ?_) (fun c3 => ?_)
      · rw [if_pos c3] at hf
        refine V_iload (pc := 121) X (th_da dtX4_settling 65 rfl) rfl ?_
        refine V_istore (pc := 123) (ls2 := [.ref 0, .int y1, .int y2, .int y3, .int y4, .int y5, .int y6]) X (th_da dtX4_settling 66 rfl) (Nat.le_of_ble_eq_true rfl) rfl rfl ?_
        refine V_iinc (pc := 125) (v := y6 + 1) (ls2 := [.ref 0, .int y1, .int y2, .int y3, .int y4, .int y5, .int (y6 + 1)]) X (th_da dtX4_settling 67 rfl) rfl rfl (Nat.le_of_ble_eq_true rfl) rfl rfl ?_
        refine V_goto (pc := 128) (tgt := 78) X (th_da dtX4_settling 68 rfl) (by decide) ?_
        exact ih _ _ _ _ _ _ _ hf
      · rw [if_neg c3] at hf
        refine V_aload_n (pc := 94) X (th_da dtX4_settling 51 rfl) rfl ?_
        refine V_getR (pc := 95) (j := 2) (t := 2) X (th_da dtX4_settling 52 rfl) wfl_X4_15 iX4 rfl rfl (Nat.le_of_ble_eq_true rfl) rfl ?_
        refine V_iload (pc := 98) X (th_da dtX4_settling 53 rfl) rfl ?_
        obtain ⟨u4, h4, e4, hf⟩ := th_bd_some hf
        refine V_callSi (pc := 100) (As := [.int y6]) X (th_da dtX4_settling 54 rfl) (mX4_at l _ _ _ _ e4) wcd_X4_at wml_X4_71 wst_X4_at win_X4_at hd_X4_at ⟨Nat.le_of_ble_eq_true rfl, Nat.le_of_ble_eq_true rfl⟩ (Nat.le_of_ble_eq_true rfl) rfl ?_
        refine V_bipush (pc := 103) (v := 7) X (th_da dtX4_settling 55 rfl) (by decide) ?_
        refine V_iadd (pc := 105) X (th_da dtX4_settling 56 rfl) ?_
        obtain ⟨v5, e5, g5, hf⟩ := th_rd_some hf
        refine V_iald (pc := 106) X (th_da dtX4_settling 57 rfl) rfl g5 e5 ?_
        refine V_aload_n (pc := 107) X (th_da dtX4_settling 58 rfl) rfl ?_
        refine V_getR (pc := 108) (j := 7) (t := 7) X (th_da dtX4_settling 59 rfl) wfl_X4_31 iX4 rfl rfl (Nat.le_of_ble_eq_true rfl) rfl ?_
        refine V_iload (pc := 111) X (th_da dtX4_settling 60 rfl) rfl ?_
        obtain ⟨v6, e6, g6, hf⟩ := th_rd_some hf
        refine V_iald (pc := 113) X (th_da dtX4_settling 61 rfl) rfl g6 e6 ?_
        refine V_icmp_eq (pc := 114) (tgt := 121) X (th_da dtX4_settling 62 rfl) (by decide) (fun c7 => ?_) (fun c7 => ?_)
        · rw [if_pos c7] at hf
          refine V_iload (pc := 121) X (th_da dtX4_settling 65 rfl) rfl ?_
          refine V_istore (pc := 123) (ls2 := [.ref 0, .int y1, .int y2, .int y3, .int y4, .int y5, .int y6]) X (th_da dtX4_settling 66 rfl) (Nat.le_of_ble_eq_true rfl) rfl rfl ?_
          refine V_iinc (pc := 125) (v := y6 + 1) (ls2 := [.ref 0, .int y1, .int y2, .int y3, .int y4, .int y5, .int (y6 + 1)]) X (th_da dtX4_settling 67 rfl) rfl rfl (Nat.le_of_ble_eq_true rfl) rfl rfl ?_
          refine V_goto (pc := 128) (tgt := 78) X (th_da dtX4_settling 68 rfl) (by decide) ?_
          exact ih _ _ _ _ _ _ _ hf
        · rw [if_neg c7] at hf
          refine V_iconst (pc := 117) (v := 0) X (th_da dtX4_settling 63 rfl) (by decide) ?_
          refine V_goto (pc := 118) (tgt := 123) X (th_da dtX4_settling 64 rfl) (by decide) ?_
          refine V_istore (pc := 123) (ls2 := [.ref 0, .int y1, .int y2, .int y3, .int y4, .int 0, .int y6]) X (th_da dtX4_settling 66 rfl) (Nat.le_of_ble_eq_true rfl) rfl rfl ?_
          refine V_iinc (pc := 125) (v := y6 + 1) (ls2 := [.ref 0, .int y1, .int y2, .int y3, .int y4, .int 0, .int (y6 + 1)]) X (th_da dtX4_settling 67 rfl) rfl rfl (Nat.le_of_ble_eq_true rfl) rfl rfl ?_
          refine V_goto (pc := 128) (tgt := 78) X (th_da dtX4_settling 68 rfl) (by decide) ?_
          exact ih _ _ _ _ _ _ _ hf
    · rw [if_neg c1] at hf
      refine V_aload_n (pc := 131) X (th_da dtX4_settling 69 rfl) rfl ?_
      obtain ⟨u8, h8, e8, hf⟩ := th_bd_some hf
      refine V_callVv (pc := 132) (q := 0) (As := []) X (th_da dtX4_settling 70 rfl) (mX4_endThought l _ _ _ e8) wcd_X4_endThought wml_X4_248 wim_X4_endThought wse_X4_endThought win_X4_endThought hd_X4_endThought ⟨Nat.le_of_ble_eq_true rfl, Nat.le_of_ble_eq_true rfl⟩ (Nat.le_of_ble_eq_true rfl) rfl rfl rfl ?_
      refine V_iload_n (pc := 135) X (th_da dtX4_settling 71 rfl) rfl ?_
      refine V_if_ne (pc := 136) (tgt := 153) X (th_da dtX4_settling 72 rfl) (by decide) (fun c9 => ?_) (fun c9 => ?_)
      · rw [if_pos c9] at hf
        refine V_iload (pc := 139) X (th_da dtX4_settling 73 rfl) rfl ?_
        refine V_if_eq (pc := 141) (tgt := 148) X (th_da dtX4_settling 74 rfl) (by decide) (fun c10 => ?_) (fun c10 => ?_)
        · rw [if_pos c10] at hf
          refine V_bipush (pc := 148) (v := 61) X (th_da dtX4_settling 77 rfl) (by decide) ?_
          refine V_goto (pc := 150) (tgt := 164) X (th_da dtX4_settling 78 rfl) (by decide) ?_
          exact V_iretF (pc := 164) X (th_da dtX4_settling 85 rfl) hf
        · rw [if_neg c10] at hf
          refine V_iload_n (pc := 144) X (th_da dtX4_settling 75 rfl) rfl ?_
          refine V_goto (pc := 145) (tgt := 164) X (th_da dtX4_settling 76 rfl) (by decide) ?_
          exact V_iretF (pc := 164) X (th_da dtX4_settling 85 rfl) hf
      · rw [if_neg c9] at hf
        refine V_iload_n (pc := 153) X (th_da dtX4_settling 79 rfl) rfl ?_
        refine V_iconst (pc := 154) (v := 1) X (th_da dtX4_settling 80 rfl) (by decide) ?_
        refine V_icmp_ne (pc := 155) (tgt := 162) X (th_da dtX4_settling 81 rfl) (by decide) (fun c11 => ?_) (fun c11 => ?_)
        · rw [if_pos c11] at hf
          refine V_iload_n (pc := 158) X (th_da dtX4_settling 82 rfl) rfl ?_
          refine V_goto (pc := 159) (tgt := 164) X (th_da dtX4_settling 83 rfl) (by decide) ?_
          exact V_iretF (pc := 164) X (th_da dtX4_settling 85 rfl) hf
        · rw [if_neg c11] at hf
          refine V_iload (pc := 162) X (th_da dtX4_settling 84 rfl) rfl ?_
          exact V_iretF (pc := 164) X (th_da dtX4_settling 85 rfl) hf
set_option maxHeartbeats 4000000 in
set_option maxRecDepth 100000 in
theorem tX4_settling_c30 (X : th_X p0 s m args meth c D cI cZ ad LM 7 RX4 cX4_settling (some .int)) : ∀ (n : Nat) (y1 : Int32) (y2 : Int32) (y3 : Int32) (y4 : Int32) (h : th_H), fX4_settling_c30 n y1 y2 y3 y4 h = some (rr, hh) → th_V p0 l e { frames := 7, cells := 0, slots := 0, locals := 160 } s m args below meth c D cI cZ ad LM 7 (some (.int rr)) hh 30 [.ref 0, .int y1, .int y2, .int y3, .int y4, .null, .null] [] h := by
  intro n
  induction n with
  | zero => intro y1 y2 y3 y4 h hf; cases hf
  | succ n ih =>
    intro y1 y2 y3 y4 h hf
    rw [fX4_settling_c30] at hf
    refine V_iload_n (pc := 30) X (th_da dtX4_settling 19 rfl) rfl ?_
    refine V_bipush (pc := 31) (v := 60) X (th_da dtX4_settling 20 rfl) (by decide) ?_
    refine V_icmp_ge (pc := 33) (tgt := 68) X (th_da dtX4_settling 21 rfl) (by decide) (fun c1 => ?_) (fun c1 => ?_)
    · rw [if_pos c1] at hf
      refine V_iload (pc := 36) X (th_da dtX4_settling 22 rfl) rfl ?_
      refine V_if_ne (pc := 38) (tgt := 68) X (th_da dtX4_settling 23 rfl) (by decide) (fun c2 => ?_) (fun c2 => ?_)
      · rw [if_pos c2] at hf
        refine V_aload_n (pc := 41) X (th_da dtX4_settling 24 rfl) rfl ?_
        obtain ⟨u3, h3, e3, hf⟩ := th_bd_some hf
        refine V_callVi (pc := 42) (q := 0) (As := []) X (th_da dtX4_settling 25 rfl) (mX4_round l _ _ _ e3) wcd_X4_round wml_X4_181 wim_X4_round wse_X4_round win_X4_round hd_X4_round ⟨Nat.le_of_ble_eq_true rfl, Nat.le_of_ble_eq_true rfl⟩ (Nat.le_of_ble_eq_true rfl) rfl rfl rfl ?_
        refine V_istore (pc := 45) (ls2 := [.ref 0, .int y1, .int y2, .int y3, .int u3, .null, .null]) X (th_da dtX4_settling 26 rfl) (Nat.le_of_ble_eq_true rfl) rfl rfl ?_
        refine V_iload_n (pc := 47) X (th_da dtX4_settling 27 rfl) rfl ?_
        refine V_aload_n (pc := 48) X (th_da dtX4_settling 28 rfl) rfl ?_
        obtain ⟨u4, h4, e4, hf⟩ := th_bd_some hf
        refine V_callVi (pc := 49) (q := 0) (As := []) X (th_da dtX4_settling 29 rfl) (mX4_overbooked l _ _ _ e4) wcd_X4_overbooked wml_X4_242 wim_X4_overbooked wse_X4_overbooked win_X4_overbooked hd_X4_overbooked ⟨Nat.le_of_ble_eq_true rfl, Nat.le_of_ble_eq_true rfl⟩ (Nat.le_of_ble_eq_true rfl) rfl rfl rfl ?_
        refine V_if_eq (pc := 52) (tgt := 59) X (th_da dtX4_settling 30 rfl) (by decide) (fun c5 => ?_) (fun c5 => ?_)
        · rw [if_pos c5] at hf
          refine V_iconst (pc := 59) (v := 0) X (th_da dtX4_settling 33 rfl) (by decide) ?_
          refine V_iadd (pc := 60) X (th_da dtX4_settling 34 rfl) ?_
          refine V_istore_n (pc := 61) (ls2 := [.ref 0, .int y1, .int y2, .int (y3 + 0), .int u3, .null, .null]) X (th_da dtX4_settling 35 rfl) (Nat.le_of_ble_eq_true rfl) rfl rfl ?_
          refine V_iinc (pc := 62) (v := y2 + 1) (ls2 := [.ref 0, .int y1, .int (y2 + 1), .int (y3 + 0), .int u3, .null, .null]) X (th_da dtX4_settling 36 rfl) rfl rfl (Nat.le_of_ble_eq_true rfl) rfl rfl ?_
          refine V_goto (pc := 65) (tgt := 30) X (th_da dtX4_settling 37 rfl) (by decide) ?_
          exact ih _ _ _ _ _ hf
        · rw [if_neg c5] at hf
          refine V_iconst (pc := 55) (v := 1) X (th_da dtX4_settling 31 rfl) (by decide) ?_
          refine V_goto (pc := 56) (tgt := 60) X (th_da dtX4_settling 32 rfl) (by decide) ?_
          refine V_iadd (pc := 60) X (th_da dtX4_settling 34 rfl) ?_
          refine V_istore_n (pc := 61) (ls2 := [.ref 0, .int y1, .int y2, .int (y3 + 1), .int u3, .null, .null]) X (th_da dtX4_settling 35 rfl) (Nat.le_of_ble_eq_true rfl) rfl rfl ?_
          refine V_iinc (pc := 62) (v := y2 + 1) (ls2 := [.ref 0, .int y1, .int (y2 + 1), .int (y3 + 1), .int u3, .null, .null]) X (th_da dtX4_settling 36 rfl) rfl rfl (Nat.le_of_ble_eq_true rfl) rfl rfl ?_
          refine V_goto (pc := 65) (tgt := 30) X (th_da dtX4_settling 37 rfl) (by decide) ?_
          exact ih _ _ _ _ _ hf
      · rw [if_neg c2] at hf
        refine V_aload_n (pc := 68) X (th_da dtX4_settling 38 rfl) rfl ?_
        obtain ⟨u6, h6, e6, hf⟩ := th_bd_some hf
        refine V_callVv (pc := 69) (q := 0) (As := []) X (th_da dtX4_settling 39 rfl) (mX4_layFair l _ _ _ e6) wcd_X4_layFair wml_X4_207 wim_X4_layFair wse_X4_layFair win_X4_layFair hd_X4_layFair ⟨Nat.le_of_ble_eq_true rfl, Nat.le_of_ble_eq_true rfl⟩ (Nat.le_of_ble_eq_true rfl) rfl rfl rfl ?_
        refine V_iconst (pc := 72) (v := 1) X (th_da dtX4_settling 40 rfl) (by decide) ?_
        refine V_istore (pc := 73) (ls2 := [.ref 0, .int y1, .int y2, .int y3, .int y4, .int 1, .null]) X (th_da dtX4_settling 41 rfl) (Nat.le_of_ble_eq_true rfl) rfl rfl ?_
        refine V_iconst (pc := 75) (v := 0) X (th_da dtX4_settling 42 rfl) (by decide) ?_
        refine V_istore (pc := 76) (ls2 := [.ref 0, .int y1, .int y2, .int y3, .int y4, .int 1, .int 0]) X (th_da dtX4_settling 43 rfl) (Nat.le_of_ble_eq_true rfl) rfl rfl ?_
        exact tX4_settling_c78 X _ _ _ _ _ _ _ _ hf
    · rw [if_neg c1] at hf
      refine V_aload_n (pc := 68) X (th_da dtX4_settling 38 rfl) rfl ?_
      obtain ⟨u7, h7, e7, hf⟩ := th_bd_some hf
      refine V_callVv (pc := 69) (q := 0) (As := []) X (th_da dtX4_settling 39 rfl) (mX4_layFair l _ _ _ e7) wcd_X4_layFair wml_X4_207 wim_X4_layFair wse_X4_layFair win_X4_layFair hd_X4_layFair ⟨Nat.le_of_ble_eq_true rfl, Nat.le_of_ble_eq_true rfl⟩ (Nat.le_of_ble_eq_true rfl) rfl rfl rfl ?_
      refine V_iconst (pc := 72) (v := 1) X (th_da dtX4_settling 40 rfl) (by decide) ?_
      refine V_istore (pc := 73) (ls2 := [.ref 0, .int y1, .int y2, .int y3, .int y4, .int 1, .null]) X (th_da dtX4_settling 41 rfl) (Nat.le_of_ble_eq_true rfl) rfl rfl ?_
      refine V_iconst (pc := 75) (v := 0) X (th_da dtX4_settling 42 rfl) (by decide) ?_
      refine V_istore (pc := 76) (ls2 := [.ref 0, .int y1, .int y2, .int y3, .int y4, .int 1, .int 0]) X (th_da dtX4_settling 43 rfl) (Nat.le_of_ble_eq_true rfl) rfl rfl ?_
      exact tX4_settling_c78 X _ _ _ _ _ _ _ _ hf
set_option maxHeartbeats 4000000 in
set_option maxRecDepth 100000 in
theorem mX4_settling (l : Launch) (x1 : Int32) (h : th_H) (rr : Int32) (hh : th_H) (hf : fX4_settling x1 h = some (rr, hh)) : th_MI l LM yX4_settling cX4_settling 7 (some .int) 7 160 [.ref 0, .int x1] h (some (.int rr)) hh := by
  refine th_MI_of (ls := [.ref 0, .int x1, .null, .null, .null, .null, .null]) RX4 rfl rfl rfl (Nat.le_of_ble_eq_true rfl) ?_
  intro p0 e s m args below meth c D cI cZ ad X
  unfold fX4_settling at hf
  refine V_aload_n (pc := 0) X (th_da dtX4_settling 0 rfl) rfl ?_
  refine V_iconst (pc := 1) (v := 0) X (th_da dtX4_settling 1 rfl) (by decide) ?_
  obtain ⟨h1, e1, hf⟩ := th_st_some hf
  refine V_putI (pc := 2) (j := 0) (ty := .int) X (th_da dtX4_settling 2 rfl) wfl_X4_55 iX4 rfl rfl (Nat.le_of_ble_eq_true rfl) rfl tyX4 tyX4_ok nmX4 rfl (tyX4_ok 0 (Nat.le_of_ble_eq_true rfl)) rfl rfl e1 ?_
  refine V_iload_n (pc := 5) X (th_da dtX4_settling 3 rfl) rfl ?_
  refine V_i2l (pc := 6) X (th_da dtX4_settling 4 rfl) ?_
  refine V_lconst (pc := 7) (v := 0) X (th_da dtX4_settling 5 rfl) (by decide) ?_
  refine V_ldc2 (pc := 8) (v := 2) X (th_da dtX4_settling 6 rfl) wcl_X4_131 ?_
  obtain ⟨u2, h2, e2, hf⟩ := th_bd_some hf
  refine V_callSi (pc := 11) (As := [.long (Int32.toInt64 x1), .long 0, .long 2]) X (th_da dtX4_settling 7 rfl) (mX4_in l _ _ _ _ _ _ e2) wcd_X4_in wml_X4_63 wst_X4_in win_X4_in hd_X4_in ⟨Nat.le_of_ble_eq_true rfl, Nat.le_of_ble_eq_true rfl⟩ (Nat.le_of_ble_eq_true rfl) rfl ?_
  refine V_if_ne (pc := 14) (tgt := 19) X (th_da dtX4_settling 8 rfl) (by decide) (fun c3 => ?_) (fun c3 => ?_)
  · rw [if_pos c3] at hf
    refine V_iconst (pc := 17) (v := (-1)) X (th_da dtX4_settling 9 rfl) (by decide) ?_
    exact V_iretF (pc := 18) X (th_da dtX4_settling 10 rfl) hf
  · rw [if_neg c3] at hf
    refine V_aload_n (pc := 19) X (th_da dtX4_settling 11 rfl) rfl ?_
    obtain ⟨u4, h4, e4, hf⟩ := th_bd_some hf
    refine V_callVv (pc := 20) (q := 0) (As := []) X (th_da dtX4_settling 12 rfl) (mX4_think l _ _ _ e4) wcd_X4_think wml_X4_245 wim_X4_think wse_X4_think win_X4_think hd_X4_think ⟨Nat.le_of_ble_eq_true rfl, Nat.le_of_ble_eq_true rfl⟩ (Nat.le_of_ble_eq_true rfl) rfl rfl rfl ?_
    refine V_iconst (pc := 23) (v := 0) X (th_da dtX4_settling 13 rfl) (by decide) ?_
    refine V_istore_n (pc := 24) (ls2 := [.ref 0, .int x1, .int 0, .null, .null, .null, .null]) X (th_da dtX4_settling 14 rfl) (Nat.le_of_ble_eq_true rfl) rfl rfl ?_
    refine V_iconst (pc := 25) (v := 0) X (th_da dtX4_settling 15 rfl) (by decide) ?_
    refine V_istore_n (pc := 26) (ls2 := [.ref 0, .int x1, .int 0, .int 0, .null, .null, .null]) X (th_da dtX4_settling 16 rfl) (Nat.le_of_ble_eq_true rfl) rfl rfl ?_
    refine V_iconst (pc := 27) (v := 0) X (th_da dtX4_settling 17 rfl) (by decide) ?_
    refine V_istore (pc := 28) (ls2 := [.ref 0, .int x1, .int 0, .int 0, .int 0, .null, .null]) X (th_da dtX4_settling 18 rfl) (Nat.le_of_ble_eq_true rfl) rfl rfl ?_
    exact tX4_settling_c30 X _ _ _ _ _ _ hf
end
def fX4_swings_c109 (k56 : Int32 → Int32 → Int32 → Int32 → Int32 → Int32 → Int32 → th_H → Option (Int32 × th_H)) (y1 : Int32) (y2 : Int32) (y3 : Int32) (y5 : Int32) (y6 : Int32) (y7 : Int32) (y9 : Int32) (z0 : Int32) (z1 : Int32) (h : th_H) : Option (Int32 × th_H) :=
  if (y5 < y9 : Prop) then
    th_bd (fX4_lesser y6 y9 h) fun u2 h2 =>
    k56 y1 y2 y3 (z0 + z1) y9 u2 (y7 + 1) h2
  else
    th_bd (fX4_lesser y6 y9 h) fun u3 h3 =>
    k56 y1 y2 y3 (z0 + z1) y5 u3 (y7 + 1) h3
def fX4_swings_c56 : Nat → Int32 → Int32 → Int32 → Int32 → Int32 → Int32 → Int32 → th_H → Option (Int32 × th_H)
  | 0, _, _, _, _, _, _, _, _ => none
  | n + 1, y1, y2, y3, y4, y5, y6, y7, h =>
    if (y7 < y2 : Prop) then
      th_bd (fX4_at y1 h) fun u2 h2 =>
      th_rd h2 2 643 (u2 + 7) fun v3 =>
      th_bd (fX4_round h2) fun u4 h4 =>
      th_bd (fX4_at y1 h4) fun u5 h5 =>
      th_rd h5 2 643 (u5 + 7) fun v6 =>
      if (v6 = v3 : Prop) then
        fX4_swings_c109 (fX4_swings_c56 n) y1 y2 y3 y5 y6 y7 v6 y4 0 h5
      else
        fX4_swings_c109 (fX4_swings_c56 n) y1 y2 y3 y5 y6 y7 v6 y4 1 h5
    else
      th_bd (fX4_endThought h) fun _u8 h8 =>
      if (y3 = 0 : Prop) then
        some (y4, h8)
      else
        if (y3 = 1 : Prop) then
          some (y5, h8)
        else
          some (y6, h8)
def fX4_swings (x1 : Int32) (x2 : Int32) (x3 : Int32) (h : th_H) : Option (Int32 × th_H) :=
  th_st (th_up h 0 0 0) fun h1 =>
  th_bd (fX4_isFlow x1 h1) fun u2 h2 =>
  if (u2 = 0 : Prop) then
    some ((-1), h2)
  else
    th_bd (fX4_in (Int32.toInt64 x2) 1 60 h2) fun u4 h4 =>
    if (u4 = 0 : Prop) then
      some ((-1), h4)
    else
      th_bd (fX4_in (Int32.toInt64 x3) 0 2 h4) fun u6 h6 =>
      if (u6 = 0 : Prop) then
        some ((-1), h6)
      else
        th_bd (fX4_think h6) fun _u8 h8 =>
        fX4_swings_c56 1000 x1 x2 x3 0 0 1000000 0 h8
def tbX4_swings : List (Nat × Instr × Nat) := [(0, .aload_n 0, 1), (1, .iconst 0, 1), (2, .putfield 55, 3), (5, .aload_n 0, 1), (6, .iload_n 1, 1), (7, .invokevirtual 125, 3), (10, .ifCond .eq 27, 3), (13, .iload_n 2, 1), (14, .i2l, 1), (15, .lconst 1, 1), (16, .ldc2_w 251, 3), (19, .invokestatic 63, 3), (22, .ifCond .eq 15, 3), (25, .iload_n 3, 1), (26, .i2l, 1), (27, .lconst 0, 1), (28, .ldc2_w 131, 3), (31, .invokestatic 63, 3), (34, .ifCond .ne 5, 3), (37, .iconst (-1), 1), (38, .ireturn, 1), (39, .aload_n 0, 1), (40, .invokevirtual 245, 3), (43, .iconst 0, 1), (44, .istore 4, 2), (46, .iconst 0, 1), (47, .istore 5, 2), (49, .ldc 93, 2), (51, .istore 6, 2), (53, .iconst 0, 1), (54, .istore 7, 2), (56, .iload 7, 2), (58, .iload_n 2, 1), (59, .if_icmp .ge 84, 3), (62, .aload_n 0, 1), (63, .getfield 15, 3), (66, .iload_n 1, 1), (67, .invokestatic 71, 3), (70, .bipush 7, 2), (72, .iadd, 1), (73, .iaload, 1), (74, .istore 8, 2), (76, .aload_n 0, 1), (77, .invokevirtual 181, 3), (80, .pop, 1), (81, .aload_n 0, 1), (82, .getfield 15, 3), (85, .iload_n 1, 1), (86, .invokestatic 71, 3), (89, .bipush 7, 2), (91, .iadd, 1), (92, .iaload, 1), (93, .istore 9, 2), (95, .iload 4, 2), (97, .iload 9, 2), (99, .iload 8, 2), (101, .if_icmp .eq 7, 3), (104, .iconst 1, 1), (105, .goto 4, 3), (108, .iconst 0, 1), (109, .iadd, 1), (110, .istore 4, 2), (112, .iload 9, 2), (114, .iload 5, 2), (116, .if_icmp .le 8, 3), (119, .iload 9, 2), (121, .goto 5, 3), (124, .iload 5, 2), (126, .istore 5, 2), (128, .iload 6, 2), (130, .iload 9, 2), (132, .invokestatic 108, 3), (135, .istore 6, 2), (137, .iinc 7 1, 3), (140, .goto (-84), 3), (143, .aload_n 0, 1), (144, .invokevirtual 248, 3), (147, .iload_n 3, 1), (148, .ifCond .ne 8, 3), (151, .iload 4, 2), (153, .goto 15, 3), (156, .iload_n 3, 1), (157, .iconst 1, 1), (158, .if_icmp .ne 8, 3), (161, .iload 5, 2), (163, .goto 5, 3), (166, .iload 6, 2), (168, .ireturn, 1)]
theorem dtX4_swings : th_dec cX4_swings tbX4_swings = true := by decide +kernel
section
variable {p0 : Program} {l : Launch} {e : Env} {s : State} {m : MethodId} {args : Array Value} {below : List Frame} {meth : Method} {c : Code} {D : va_G} {cI cZ : ClassId} {ad : Nat → Nat} {rr : Int32} {hh : th_H}
set_option maxHeartbeats 4000000 in
set_option maxRecDepth 100000 in
theorem tX4_swings_c109 (X : th_X p0 s m args meth c D cI cZ ad LM 10 RX4 cX4_swings (some .int)) (k56 : Int32 → Int32 → Int32 → Int32 → Int32 → Int32 → Int32 → th_H → Option (Int32 × th_H)) (hk56 : ∀ (y1 : Int32) (y2 : Int32) (y3 : Int32) (y4 : Int32) (y5 : Int32) (y6 : Int32) (y7 : Int32) (h : th_H), k56 y1 y2 y3 y4 y5 y6 y7 h = some (rr, hh) → th_V p0 l e { frames := 7, cells := 0, slots := 0, locals := 160 } s m args below meth c D cI cZ ad LM 10 (some (.int rr)) hh 56 [.ref 0, .int y1, .int y2, .int y3, .int y4, .int y5, .int y6, .int y7, .null, .null] [] h) (y1 : Int32) (y2 : Int32) (y3 : Int32) (y5 : Int32) (y6 : Int32) (y7 : Int32) (y9 : Int32) (z0 : Int32) (z1 : Int32) (h : th_H) (hf : fX4_swings_c109 k56 y1 y2 y3 y5 y6 y7 y9 z0 z1 h = some (rr, hh)) : th_V p0 l e { frames := 7, cells := 0, slots := 0, locals := 160 } s m args below meth c D cI cZ ad LM 10 (some (.int rr)) hh 109 [.ref 0, .int y1, .int y2, .int y3, .null, .int y5, .int y6, .int y7, .null, .int y9] [.int z1, .int z0] h := by
  unfold fX4_swings_c109 at hf
  refine V_iadd (pc := 109) X (th_da dtX4_swings 60 rfl) ?_
  refine V_istore (pc := 110) (ls2 := [.ref 0, .int y1, .int y2, .int y3, .int (z0 + z1), .int y5, .int y6, .int y7, .null, .int y9]) X (th_da dtX4_swings 61 rfl) (Nat.le_of_ble_eq_true rfl) rfl rfl ?_
  refine V_iload (pc := 112) X (th_da dtX4_swings 62 rfl) rfl ?_
  refine V_iload (pc := 114) X (th_da dtX4_swings 63 rfl) rfl ?_
  refine V_icmp_le (pc := 116) (tgt := 124) X (th_da dtX4_swings 64 rfl) (by decide) (fun c1 => ?_) (fun c1 => ?_)
  · rw [if_pos c1] at hf
    refine V_iload (pc := 119) X (th_da dtX4_swings 65 rfl) rfl ?_
    refine V_goto (pc := 121) (tgt := 126) X (th_da dtX4_swings 66 rfl) (by decide) ?_
    refine V_istore (pc := 126) (ls2 := [.ref 0, .int y1, .int y2, .int y3, .int (z0 + z1), .int y9, .int y6, .int y7, .null, .int y9]) X (th_da dtX4_swings 68 rfl) (Nat.le_of_ble_eq_true rfl) rfl rfl ?_
    refine V_iload (pc := 128) X (th_da dtX4_swings 69 rfl) rfl ?_
    refine V_iload (pc := 130) X (th_da dtX4_swings 70 rfl) rfl ?_
    obtain ⟨u2, h2, e2, hf⟩ := th_bd_some hf
    refine V_callSi (pc := 132) (As := [.int y6, .int y9]) X (th_da dtX4_swings 71 rfl) (mX4_lesser l _ _ _ _ _ e2) wcd_X4_lesser wml_X4_108 wst_X4_lesser win_X4_lesser hd_X4_lesser ⟨Nat.le_of_ble_eq_true rfl, Nat.le_of_ble_eq_true rfl⟩ (Nat.le_of_ble_eq_true rfl) rfl ?_
    refine V_istore (pc := 135) (ls2 := [.ref 0, .int y1, .int y2, .int y3, .int (z0 + z1), .int y9, .int u2, .int y7, .null, .int y9]) X (th_da dtX4_swings 72 rfl) (Nat.le_of_ble_eq_true rfl) rfl rfl ?_
    refine V_iinc (pc := 137) (v := y7 + 1) (ls2 := [.ref 0, .int y1, .int y2, .int y3, .int (z0 + z1), .int y9, .int u2, .int (y7 + 1), .null, .int y9]) X (th_da dtX4_swings 73 rfl) rfl rfl (Nat.le_of_ble_eq_true rfl) rfl rfl ?_
    refine V_goto (pc := 140) (tgt := 56) X (th_da dtX4_swings 74 rfl) (by decide) ?_
    refine V_mask [true, true, true, true, true, true, true, true, false, false] (ls2 := [.ref 0, .int y1, .int y2, .int y3, .int (z0 + z1), .int y9, .int u2, .int (y7 + 1), .null, .null]) rfl ?_
    exact hk56 _ _ _ _ _ _ _ _ hf
  · rw [if_neg c1] at hf
    refine V_iload (pc := 124) X (th_da dtX4_swings 67 rfl) rfl ?_
    refine V_istore (pc := 126) (ls2 := [.ref 0, .int y1, .int y2, .int y3, .int (z0 + z1), .int y5, .int y6, .int y7, .null, .int y9]) X (th_da dtX4_swings 68 rfl) (Nat.le_of_ble_eq_true rfl) rfl rfl ?_
    refine V_iload (pc := 128) X (th_da dtX4_swings 69 rfl) rfl ?_
    refine V_iload (pc := 130) X (th_da dtX4_swings 70 rfl) rfl ?_
    obtain ⟨u3, h3, e3, hf⟩ := th_bd_some hf
    refine V_callSi (pc := 132) (As := [.int y6, .int y9]) X (th_da dtX4_swings 71 rfl) (mX4_lesser l _ _ _ _ _ e3) wcd_X4_lesser wml_X4_108 wst_X4_lesser win_X4_lesser hd_X4_lesser ⟨Nat.le_of_ble_eq_true rfl, Nat.le_of_ble_eq_true rfl⟩ (Nat.le_of_ble_eq_true rfl) rfl ?_
    refine V_istore (pc := 135) (ls2 := [.ref 0, .int y1, .int y2, .int y3, .int (z0 + z1), .int y5, .int u3, .int y7, .null, .int y9]) X (th_da dtX4_swings 72 rfl) (Nat.le_of_ble_eq_true rfl) rfl rfl ?_
    refine V_iinc (pc := 137) (v := y7 + 1) (ls2 := [.ref 0, .int y1, .int y2, .int y3, .int (z0 + z1), .int y5, .int u3, .int (y7 + 1), .null, .int y9]) X (th_da dtX4_swings 73 rfl) rfl rfl (Nat.le_of_ble_eq_true rfl) rfl rfl ?_
    refine V_goto (pc := 140) (tgt := 56) X (th_da dtX4_swings 74 rfl) (by decide) ?_
    refine V_mask [true, true, true, true, true, true, true, true, false, false] (ls2 := [.ref 0, .int y1, .int y2, .int y3, .int (z0 + z1), .int y5, .int u3, .int (y7 + 1), .null, .null]) rfl ?_
    exact hk56 _ _ _ _ _ _ _ _ hf
set_option maxHeartbeats 4000000 in
set_option maxRecDepth 100000 in
theorem tX4_swings_c56 (X : th_X p0 s m args meth c D cI cZ ad LM 10 RX4 cX4_swings (some .int)) : ∀ (n : Nat) (y1 : Int32) (y2 : Int32) (y3 : Int32) (y4 : Int32) (y5 : Int32) (y6 : Int32) (y7 : Int32) (h : th_H), fX4_swings_c56 n y1 y2 y3 y4 y5 y6 y7 h = some (rr, hh) → th_V p0 l e { frames := 7, cells := 0, slots := 0, locals := 160 } s m args below meth c D cI cZ ad LM 10 (some (.int rr)) hh 56 [.ref 0, .int y1, .int y2, .int y3, .int y4, .int y5, .int y6, .int y7, .null, .null] [] h := by
  intro n
  induction n with
  | zero => intro y1 y2 y3 y4 y5 y6 y7 h hf; cases hf
  | succ n ih =>
    intro y1 y2 y3 y4 y5 y6 y7 h hf
    rw [fX4_swings_c56] at hf
    refine V_iload (pc := 56) X (th_da dtX4_swings 31 rfl) rfl ?_
    refine V_iload_n (pc := 58) X (th_da dtX4_swings 32 rfl) rfl ?_
    refine V_icmp_ge (pc := 59) (tgt := 143) X (th_da dtX4_swings 33 rfl) (by decide) (fun c1 => ?_) (fun c1 => ?_)
    · rw [if_pos c1] at hf
      refine V_aload_n (pc := 62) X (th_da dtX4_swings 34 rfl) rfl ?_
      refine V_getR (pc := 63) (j := 2) (t := 2) X (th_da dtX4_swings 35 rfl) wfl_X4_15 iX4 rfl rfl (Nat.le_of_ble_eq_true rfl) rfl ?_
      refine V_iload_n (pc := 66) X (th_da dtX4_swings 36 rfl) rfl ?_
      obtain ⟨u2, h2, e2, hf⟩ := th_bd_some hf
      refine V_callSi (pc := 67) (As := [.int y1]) X (th_da dtX4_swings 37 rfl) (mX4_at l _ _ _ _ e2) wcd_X4_at wml_X4_71 wst_X4_at win_X4_at hd_X4_at ⟨Nat.le_of_ble_eq_true rfl, Nat.le_of_ble_eq_true rfl⟩ (Nat.le_of_ble_eq_true rfl) rfl ?_
      refine V_bipush (pc := 70) (v := 7) X (th_da dtX4_swings 38 rfl) (by decide) ?_
      refine V_iadd (pc := 72) X (th_da dtX4_swings 39 rfl) ?_
      obtain ⟨v3, e3, g3, hf⟩ := th_rd_some hf
      refine V_iald (pc := 73) X (th_da dtX4_swings 40 rfl) rfl g3 e3 ?_
      refine V_istore (pc := 74) (ls2 := [.ref 0, .int y1, .int y2, .int y3, .int y4, .int y5, .int y6, .int y7, .int v3, .null]) X (th_da dtX4_swings 41 rfl) (Nat.le_of_ble_eq_true rfl) rfl rfl ?_
      refine V_aload_n (pc := 76) X (th_da dtX4_swings 42 rfl) rfl ?_
      obtain ⟨u4, h4, e4, hf⟩ := th_bd_some hf
      refine V_callVi (pc := 77) (q := 0) (As := []) X (th_da dtX4_swings 43 rfl) (mX4_round l _ _ _ e4) wcd_X4_round wml_X4_181 wim_X4_round wse_X4_round win_X4_round hd_X4_round ⟨Nat.le_of_ble_eq_true rfl, Nat.le_of_ble_eq_true rfl⟩ (Nat.le_of_ble_eq_true rfl) rfl rfl rfl ?_
      refine V_pop (pc := 80) X (th_da dtX4_swings 44 rfl) rfl ?_
      refine V_aload_n (pc := 81) X (th_da dtX4_swings 45 rfl) rfl ?_
      refine V_getR (pc := 82) (j := 2) (t := 2) X (th_da dtX4_swings 46 rfl) wfl_X4_15 iX4 rfl rfl (Nat.le_of_ble_eq_true rfl) rfl ?_
      refine V_iload_n (pc := 85) X (th_da dtX4_swings 47 rfl) rfl ?_
      obtain ⟨u5, h5, e5, hf⟩ := th_bd_some hf
      refine V_callSi (pc := 86) (As := [.int y1]) X (th_da dtX4_swings 48 rfl) (mX4_at l _ _ _ _ e5) wcd_X4_at wml_X4_71 wst_X4_at win_X4_at hd_X4_at ⟨Nat.le_of_ble_eq_true rfl, Nat.le_of_ble_eq_true rfl⟩ (Nat.le_of_ble_eq_true rfl) rfl ?_
      refine V_bipush (pc := 89) (v := 7) X (th_da dtX4_swings 49 rfl) (by decide) ?_
      refine V_iadd (pc := 91) X (th_da dtX4_swings 50 rfl) ?_
      obtain ⟨v6, e6, g6, hf⟩ := th_rd_some hf
      refine V_iald (pc := 92) X (th_da dtX4_swings 51 rfl) rfl g6 e6 ?_
      refine V_istore (pc := 93) (ls2 := [.ref 0, .int y1, .int y2, .int y3, .int y4, .int y5, .int y6, .int y7, .int v3, .int v6]) X (th_da dtX4_swings 52 rfl) (Nat.le_of_ble_eq_true rfl) rfl rfl ?_
      refine V_iload (pc := 95) X (th_da dtX4_swings 53 rfl) rfl ?_
      refine V_iload (pc := 97) X (th_da dtX4_swings 54 rfl) rfl ?_
      refine V_iload (pc := 99) X (th_da dtX4_swings 55 rfl) rfl ?_
      refine V_icmp_eq (pc := 101) (tgt := 108) X (th_da dtX4_swings 56 rfl) (by decide) (fun c7 => ?_) (fun c7 => ?_)
      · rw [if_pos c7] at hf
        refine V_iconst (pc := 108) (v := 0) X (th_da dtX4_swings 59 rfl) (by decide) ?_
        refine V_mask [true, true, true, true, false, true, true, true, false, true] (ls2 := [.ref 0, .int y1, .int y2, .int y3, .null, .int y5, .int y6, .int y7, .null, .int v6]) rfl ?_
        exact tX4_swings_c109 X _ ih _ _ _ _ _ _ _ _ _ _ hf
      · rw [if_neg c7] at hf
        refine V_iconst (pc := 104) (v := 1) X (th_da dtX4_swings 57 rfl) (by decide) ?_
        refine V_goto (pc := 105) (tgt := 109) X (th_da dtX4_swings 58 rfl) (by decide) ?_
        refine V_mask [true, true, true, true, false, true, true, true, false, true] (ls2 := [.ref 0, .int y1, .int y2, .int y3, .null, .int y5, .int y6, .int y7, .null, .int v6]) rfl ?_
        exact tX4_swings_c109 X _ ih _ _ _ _ _ _ _ _ _ _ hf
    · rw [if_neg c1] at hf
      refine V_aload_n (pc := 143) X (th_da dtX4_swings 75 rfl) rfl ?_
      obtain ⟨u8, h8, e8, hf⟩ := th_bd_some hf
      refine V_callVv (pc := 144) (q := 0) (As := []) X (th_da dtX4_swings 76 rfl) (mX4_endThought l _ _ _ e8) wcd_X4_endThought wml_X4_248 wim_X4_endThought wse_X4_endThought win_X4_endThought hd_X4_endThought ⟨Nat.le_of_ble_eq_true rfl, Nat.le_of_ble_eq_true rfl⟩ (Nat.le_of_ble_eq_true rfl) rfl rfl rfl ?_
      refine V_iload_n (pc := 147) X (th_da dtX4_swings 77 rfl) rfl ?_
      refine V_if_ne (pc := 148) (tgt := 156) X (th_da dtX4_swings 78 rfl) (by decide) (fun c9 => ?_) (fun c9 => ?_)
      · rw [if_pos c9] at hf
        refine V_iload (pc := 151) X (th_da dtX4_swings 79 rfl) rfl ?_
        refine V_goto (pc := 153) (tgt := 168) X (th_da dtX4_swings 80 rfl) (by decide) ?_
        exact V_iretF (pc := 168) X (th_da dtX4_swings 87 rfl) hf
      · rw [if_neg c9] at hf
        refine V_iload_n (pc := 156) X (th_da dtX4_swings 81 rfl) rfl ?_
        refine V_iconst (pc := 157) (v := 1) X (th_da dtX4_swings 82 rfl) (by decide) ?_
        refine V_icmp_ne (pc := 158) (tgt := 166) X (th_da dtX4_swings 83 rfl) (by decide) (fun c10 => ?_) (fun c10 => ?_)
        · rw [if_pos c10] at hf
          refine V_iload (pc := 161) X (th_da dtX4_swings 84 rfl) rfl ?_
          refine V_goto (pc := 163) (tgt := 168) X (th_da dtX4_swings 85 rfl) (by decide) ?_
          exact V_iretF (pc := 168) X (th_da dtX4_swings 87 rfl) hf
        · rw [if_neg c10] at hf
          refine V_iload (pc := 166) X (th_da dtX4_swings 86 rfl) rfl ?_
          exact V_iretF (pc := 168) X (th_da dtX4_swings 87 rfl) hf
set_option maxHeartbeats 4000000 in
set_option maxRecDepth 100000 in
theorem mX4_swings (l : Launch) (x1 : Int32) (x2 : Int32) (x3 : Int32) (h : th_H) (rr : Int32) (hh : th_H) (hf : fX4_swings x1 x2 x3 h = some (rr, hh)) : th_MI l LM yX4_swings cX4_swings 10 (some .int) 7 160 [.ref 0, .int x1, .int x2, .int x3] h (some (.int rr)) hh := by
  refine th_MI_of (ls := [.ref 0, .int x1, .int x2, .int x3, .null, .null, .null, .null, .null, .null]) RX4 rfl rfl rfl (Nat.le_of_ble_eq_true rfl) ?_
  intro p0 e s m args below meth c D cI cZ ad X
  unfold fX4_swings at hf
  refine V_aload_n (pc := 0) X (th_da dtX4_swings 0 rfl) rfl ?_
  refine V_iconst (pc := 1) (v := 0) X (th_da dtX4_swings 1 rfl) (by decide) ?_
  obtain ⟨h1, e1, hf⟩ := th_st_some hf
  refine V_putI (pc := 2) (j := 0) (ty := .int) X (th_da dtX4_swings 2 rfl) wfl_X4_55 iX4 rfl rfl (Nat.le_of_ble_eq_true rfl) rfl tyX4 tyX4_ok nmX4 rfl (tyX4_ok 0 (Nat.le_of_ble_eq_true rfl)) rfl rfl e1 ?_
  refine V_aload_n (pc := 5) X (th_da dtX4_swings 3 rfl) rfl ?_
  refine V_iload_n (pc := 6) X (th_da dtX4_swings 4 rfl) rfl ?_
  obtain ⟨u2, h2, e2, hf⟩ := th_bd_some hf
  refine V_callVi (pc := 7) (q := 0) (As := [.int x1]) X (th_da dtX4_swings 5 rfl) (mX4_isFlow l _ _ _ _ e2) wcd_X4_isFlow wml_X4_125 wim_X4_isFlow wse_X4_isFlow win_X4_isFlow hd_X4_isFlow ⟨Nat.le_of_ble_eq_true rfl, Nat.le_of_ble_eq_true rfl⟩ (Nat.le_of_ble_eq_true rfl) rfl rfl rfl ?_
  refine V_if_eq (pc := 10) (tgt := 37) X (th_da dtX4_swings 6 rfl) (by decide) (fun c3 => ?_) (fun c3 => ?_)
  · rw [if_pos c3] at hf
    refine V_iconst (pc := 37) (v := (-1)) X (th_da dtX4_swings 19 rfl) (by decide) ?_
    exact V_iretF (pc := 38) X (th_da dtX4_swings 20 rfl) hf
  · rw [if_neg c3] at hf
    refine V_iload_n (pc := 13) X (th_da dtX4_swings 7 rfl) rfl ?_
    refine V_i2l (pc := 14) X (th_da dtX4_swings 8 rfl) ?_
    refine V_lconst (pc := 15) (v := 1) X (th_da dtX4_swings 9 rfl) (by decide) ?_
    refine V_ldc2 (pc := 16) (v := 60) X (th_da dtX4_swings 10 rfl) wcl_X4_251 ?_
    obtain ⟨u4, h4, e4, hf⟩ := th_bd_some hf
    refine V_callSi (pc := 19) (As := [.long (Int32.toInt64 x2), .long 1, .long 60]) X (th_da dtX4_swings 11 rfl) (mX4_in l _ _ _ _ _ _ e4) wcd_X4_in wml_X4_63 wst_X4_in win_X4_in hd_X4_in ⟨Nat.le_of_ble_eq_true rfl, Nat.le_of_ble_eq_true rfl⟩ (Nat.le_of_ble_eq_true rfl) rfl ?_
    refine V_if_eq (pc := 22) (tgt := 37) X (th_da dtX4_swings 12 rfl) (by decide) (fun c5 => ?_) (fun c5 => ?_)
    · rw [if_pos c5] at hf
      refine V_iconst (pc := 37) (v := (-1)) X (th_da dtX4_swings 19 rfl) (by decide) ?_
      exact V_iretF (pc := 38) X (th_da dtX4_swings 20 rfl) hf
    · rw [if_neg c5] at hf
      refine V_iload_n (pc := 25) X (th_da dtX4_swings 13 rfl) rfl ?_
      refine V_i2l (pc := 26) X (th_da dtX4_swings 14 rfl) ?_
      refine V_lconst (pc := 27) (v := 0) X (th_da dtX4_swings 15 rfl) (by decide) ?_
      refine V_ldc2 (pc := 28) (v := 2) X (th_da dtX4_swings 16 rfl) wcl_X4_131 ?_
      obtain ⟨u6, h6, e6, hf⟩ := th_bd_some hf
      refine V_callSi (pc := 31) (As := [.long (Int32.toInt64 x3), .long 0, .long 2]) X (th_da dtX4_swings 17 rfl) (mX4_in l _ _ _ _ _ _ e6) wcd_X4_in wml_X4_63 wst_X4_in win_X4_in hd_X4_in ⟨Nat.le_of_ble_eq_true rfl, Nat.le_of_ble_eq_true rfl⟩ (Nat.le_of_ble_eq_true rfl) rfl ?_
      refine V_if_ne (pc := 34) (tgt := 39) X (th_da dtX4_swings 18 rfl) (by decide) (fun c7 => ?_) (fun c7 => ?_)
      · rw [if_pos c7] at hf
        refine V_iconst (pc := 37) (v := (-1)) X (th_da dtX4_swings 19 rfl) (by decide) ?_
        exact V_iretF (pc := 38) X (th_da dtX4_swings 20 rfl) hf
      · rw [if_neg c7] at hf
        refine V_aload_n (pc := 39) X (th_da dtX4_swings 21 rfl) rfl ?_
        obtain ⟨u8, h8, e8, hf⟩ := th_bd_some hf
        refine V_callVv (pc := 40) (q := 0) (As := []) X (th_da dtX4_swings 22 rfl) (mX4_think l _ _ _ e8) wcd_X4_think wml_X4_245 wim_X4_think wse_X4_think win_X4_think hd_X4_think ⟨Nat.le_of_ble_eq_true rfl, Nat.le_of_ble_eq_true rfl⟩ (Nat.le_of_ble_eq_true rfl) rfl rfl rfl ?_
        refine V_iconst (pc := 43) (v := 0) X (th_da dtX4_swings 23 rfl) (by decide) ?_
        refine V_istore (pc := 44) (ls2 := [.ref 0, .int x1, .int x2, .int x3, .int 0, .null, .null, .null, .null, .null]) X (th_da dtX4_swings 24 rfl) (Nat.le_of_ble_eq_true rfl) rfl rfl ?_
        refine V_iconst (pc := 46) (v := 0) X (th_da dtX4_swings 25 rfl) (by decide) ?_
        refine V_istore (pc := 47) (ls2 := [.ref 0, .int x1, .int x2, .int x3, .int 0, .int 0, .null, .null, .null, .null]) X (th_da dtX4_swings 26 rfl) (Nat.le_of_ble_eq_true rfl) rfl rfl ?_
        refine V_ldc (pc := 49) (v := 1000000) X (th_da dtX4_swings 27 rfl) wco_X4_93 ?_
        refine V_istore (pc := 51) (ls2 := [.ref 0, .int x1, .int x2, .int x3, .int 0, .int 0, .int 1000000, .null, .null, .null]) X (th_da dtX4_swings 28 rfl) (Nat.le_of_ble_eq_true rfl) rfl rfl ?_
        refine V_iconst (pc := 53) (v := 0) X (th_da dtX4_swings 29 rfl) (by decide) ?_
        refine V_istore (pc := 54) (ls2 := [.ref 0, .int x1, .int x2, .int x3, .int 0, .int 0, .int 1000000, .int 0, .null, .null]) X (th_da dtX4_swings 30 rfl) (Nat.le_of_ble_eq_true rfl) rfl rfl ?_
        exact tX4_swings_c56 X _ _ _ _ _ _ _ _ _ hf
end
def fX4_peak_c35 : Nat → Int32 → Int32 → Int32 → Int32 → th_H → Option (Int32 × th_H)
  | 0, _, _, _, _, _ => none
  | n + 1, y1, y2, y3, y4, h =>
    if (y4 < y2 : Prop) then
      th_bd (fX4_round h) fun u2 h2 =>
      th_bd (fX4_bookedOf y1 h2) fun u3 h3 =>
      if (y3 < u3 : Prop) then
        th_bd (fX4_bookedOf y1 h3) fun u5 h5 =>
        fX4_peak_c35 n y1 y2 u5 (y4 + 1) h5
      else
        fX4_peak_c35 n y1 y2 y3 (y4 + 1) h3
    else
      th_bd (fX4_endThought h) fun _u6 h6 =>
      some (y3, h6)
def fX4_peak (x1 : Int32) (x2 : Int32) (h : th_H) : Option (Int32 × th_H) :=
  th_st (th_up h 0 0 0) fun h1 =>
  th_bd (fX4_isLink x1 h1) fun u2 h2 =>
  if (u2 = 0 : Prop) then
    some ((-1), h2)
  else
    th_bd (fX4_in (Int32.toInt64 x2) 1 60 h2) fun u4 h4 =>
    if (u4 = 0 : Prop) then
      some ((-1), h4)
    else
      th_bd (fX4_think h4) fun _u6 h6 =>
      fX4_peak_c35 1000 x1 x2 0 0 h6
def tbX4_peak : List (Nat × Instr × Nat) := [(0, .aload_n 0, 1), (1, .iconst 0, 1), (2, .putfield 55, 3), (5, .iload_n 1, 1), (6, .invokestatic 82, 3), (9, .ifCond .eq 15, 3), (12, .iload_n 2, 1), (13, .i2l, 1), (14, .lconst 1, 1), (15, .ldc2_w 251, 3), (18, .invokestatic 63, 3), (21, .ifCond .ne 5, 3), (24, .iconst (-1), 1), (25, .ireturn, 1), (26, .aload_n 0, 1), (27, .invokevirtual 245, 3), (30, .iconst 0, 1), (31, .istore_n 3, 1), (32, .iconst 0, 1), (33, .istore 4, 2), (35, .iload 4, 2), (37, .iload_n 2, 1), (38, .if_icmp .ge 33, 3), (41, .aload_n 0, 1), (42, .invokevirtual 181, 3), (45, .pop, 1), (46, .aload_n 0, 1), (47, .iload_n 1, 1), (48, .invokevirtual 239, 3), (51, .iload_n 3, 1), (52, .if_icmp .le 11, 3), (55, .aload_n 0, 1), (56, .iload_n 1, 1), (57, .invokevirtual 239, 3), (60, .goto 4, 3), (63, .iload_n 3, 1), (64, .istore_n 3, 1), (65, .iinc 4 1, 3), (68, .goto (-33), 3), (71, .aload_n 0, 1), (72, .invokevirtual 248, 3), (75, .iload_n 3, 1), (76, .ireturn, 1)]
theorem dtX4_peak : th_dec cX4_peak tbX4_peak = true := by decide +kernel
section
variable {p0 : Program} {l : Launch} {e : Env} {s : State} {m : MethodId} {args : Array Value} {below : List Frame} {meth : Method} {c : Code} {D : va_G} {cI cZ : ClassId} {ad : Nat → Nat} {rr : Int32} {hh : th_H}
set_option maxHeartbeats 4000000 in
set_option maxRecDepth 100000 in
theorem tX4_peak_c35 (X : th_X p0 s m args meth c D cI cZ ad LM 5 RX4 cX4_peak (some .int)) : ∀ (n : Nat) (y1 : Int32) (y2 : Int32) (y3 : Int32) (y4 : Int32) (h : th_H), fX4_peak_c35 n y1 y2 y3 y4 h = some (rr, hh) → th_V p0 l e { frames := 7, cells := 0, slots := 0, locals := 160 } s m args below meth c D cI cZ ad LM 5 (some (.int rr)) hh 35 [.ref 0, .int y1, .int y2, .int y3, .int y4] [] h := by
  intro n
  induction n with
  | zero => intro y1 y2 y3 y4 h hf; cases hf
  | succ n ih =>
    intro y1 y2 y3 y4 h hf
    rw [fX4_peak_c35] at hf
    refine V_iload (pc := 35) X (th_da dtX4_peak 20 rfl) rfl ?_
    refine V_iload_n (pc := 37) X (th_da dtX4_peak 21 rfl) rfl ?_
    refine V_icmp_ge (pc := 38) (tgt := 71) X (th_da dtX4_peak 22 rfl) (by decide) (fun c1 => ?_) (fun c1 => ?_)
    · rw [if_pos c1] at hf
      refine V_aload_n (pc := 41) X (th_da dtX4_peak 23 rfl) rfl ?_
      obtain ⟨u2, h2, e2, hf⟩ := th_bd_some hf
      refine V_callVi (pc := 42) (q := 0) (As := []) X (th_da dtX4_peak 24 rfl) (mX4_round l _ _ _ e2) wcd_X4_round wml_X4_181 wim_X4_round wse_X4_round win_X4_round hd_X4_round ⟨Nat.le_of_ble_eq_true rfl, Nat.le_of_ble_eq_true rfl⟩ (Nat.le_of_ble_eq_true rfl) rfl rfl rfl ?_
      refine V_pop (pc := 45) X (th_da dtX4_peak 25 rfl) rfl ?_
      refine V_aload_n (pc := 46) X (th_da dtX4_peak 26 rfl) rfl ?_
      refine V_iload_n (pc := 47) X (th_da dtX4_peak 27 rfl) rfl ?_
      obtain ⟨u3, h3, e3, hf⟩ := th_bd_some hf
      refine V_callVi (pc := 48) (q := 0) (As := [.int y1]) X (th_da dtX4_peak 28 rfl) (mX4_bookedOf l _ _ _ _ e3) wcd_X4_bookedOf wml_X4_239 wim_X4_bookedOf wse_X4_bookedOf win_X4_bookedOf hd_X4_bookedOf ⟨Nat.le_of_ble_eq_true rfl, Nat.le_of_ble_eq_true rfl⟩ (Nat.le_of_ble_eq_true rfl) rfl rfl rfl ?_
      refine V_iload_n (pc := 51) X (th_da dtX4_peak 29 rfl) rfl ?_
      refine V_icmp_le (pc := 52) (tgt := 63) X (th_da dtX4_peak 30 rfl) (by decide) (fun c4 => ?_) (fun c4 => ?_)
      · rw [if_pos c4] at hf
        refine V_aload_n (pc := 55) X (th_da dtX4_peak 31 rfl) rfl ?_
        refine V_iload_n (pc := 56) X (th_da dtX4_peak 32 rfl) rfl ?_
        obtain ⟨u5, h5, e5, hf⟩ := th_bd_some hf
        refine V_callVi (pc := 57) (q := 0) (As := [.int y1]) X (th_da dtX4_peak 33 rfl) (mX4_bookedOf l _ _ _ _ e5) wcd_X4_bookedOf wml_X4_239 wim_X4_bookedOf wse_X4_bookedOf win_X4_bookedOf hd_X4_bookedOf ⟨Nat.le_of_ble_eq_true rfl, Nat.le_of_ble_eq_true rfl⟩ (Nat.le_of_ble_eq_true rfl) rfl rfl rfl ?_
        refine V_goto (pc := 60) (tgt := 64) X (th_da dtX4_peak 34 rfl) (by decide) ?_
        refine V_istore_n (pc := 64) (ls2 := [.ref 0, .int y1, .int y2, .int u5, .int y4]) X (th_da dtX4_peak 36 rfl) (Nat.le_of_ble_eq_true rfl) rfl rfl ?_
        refine V_iinc (pc := 65) (v := y4 + 1) (ls2 := [.ref 0, .int y1, .int y2, .int u5, .int (y4 + 1)]) X (th_da dtX4_peak 37 rfl) rfl rfl (Nat.le_of_ble_eq_true rfl) rfl rfl ?_
        refine V_goto (pc := 68) (tgt := 35) X (th_da dtX4_peak 38 rfl) (by decide) ?_
        exact ih _ _ _ _ _ hf
      · rw [if_neg c4] at hf
        refine V_iload_n (pc := 63) X (th_da dtX4_peak 35 rfl) rfl ?_
        refine V_istore_n (pc := 64) (ls2 := [.ref 0, .int y1, .int y2, .int y3, .int y4]) X (th_da dtX4_peak 36 rfl) (Nat.le_of_ble_eq_true rfl) rfl rfl ?_
        refine V_iinc (pc := 65) (v := y4 + 1) (ls2 := [.ref 0, .int y1, .int y2, .int y3, .int (y4 + 1)]) X (th_da dtX4_peak 37 rfl) rfl rfl (Nat.le_of_ble_eq_true rfl) rfl rfl ?_
        refine V_goto (pc := 68) (tgt := 35) X (th_da dtX4_peak 38 rfl) (by decide) ?_
        exact ih _ _ _ _ _ hf
    · rw [if_neg c1] at hf
      refine V_aload_n (pc := 71) X (th_da dtX4_peak 39 rfl) rfl ?_
      obtain ⟨u6, h6, e6, hf⟩ := th_bd_some hf
      refine V_callVv (pc := 72) (q := 0) (As := []) X (th_da dtX4_peak 40 rfl) (mX4_endThought l _ _ _ e6) wcd_X4_endThought wml_X4_248 wim_X4_endThought wse_X4_endThought win_X4_endThought hd_X4_endThought ⟨Nat.le_of_ble_eq_true rfl, Nat.le_of_ble_eq_true rfl⟩ (Nat.le_of_ble_eq_true rfl) rfl rfl rfl ?_
      refine V_iload_n (pc := 75) X (th_da dtX4_peak 41 rfl) rfl ?_
      exact V_iretF (pc := 76) X (th_da dtX4_peak 42 rfl) hf
set_option maxHeartbeats 4000000 in
set_option maxRecDepth 100000 in
theorem mX4_peak (l : Launch) (x1 : Int32) (x2 : Int32) (h : th_H) (rr : Int32) (hh : th_H) (hf : fX4_peak x1 x2 h = some (rr, hh)) : th_MI l LM yX4_peak cX4_peak 5 (some .int) 7 160 [.ref 0, .int x1, .int x2] h (some (.int rr)) hh := by
  refine th_MI_of (ls := [.ref 0, .int x1, .int x2, .null, .null]) RX4 rfl rfl rfl (Nat.le_of_ble_eq_true rfl) ?_
  intro p0 e s m args below meth c D cI cZ ad X
  unfold fX4_peak at hf
  refine V_aload_n (pc := 0) X (th_da dtX4_peak 0 rfl) rfl ?_
  refine V_iconst (pc := 1) (v := 0) X (th_da dtX4_peak 1 rfl) (by decide) ?_
  obtain ⟨h1, e1, hf⟩ := th_st_some hf
  refine V_putI (pc := 2) (j := 0) (ty := .int) X (th_da dtX4_peak 2 rfl) wfl_X4_55 iX4 rfl rfl (Nat.le_of_ble_eq_true rfl) rfl tyX4 tyX4_ok nmX4 rfl (tyX4_ok 0 (Nat.le_of_ble_eq_true rfl)) rfl rfl e1 ?_
  refine V_iload_n (pc := 5) X (th_da dtX4_peak 3 rfl) rfl ?_
  obtain ⟨u2, h2, e2, hf⟩ := th_bd_some hf
  refine V_callSi (pc := 6) (As := [.int x1]) X (th_da dtX4_peak 4 rfl) (mX4_isLink l _ _ _ _ e2) wcd_X4_isLink wml_X4_82 wst_X4_isLink win_X4_isLink hd_X4_isLink ⟨Nat.le_of_ble_eq_true rfl, Nat.le_of_ble_eq_true rfl⟩ (Nat.le_of_ble_eq_true rfl) rfl ?_
  refine V_if_eq (pc := 9) (tgt := 24) X (th_da dtX4_peak 5 rfl) (by decide) (fun c3 => ?_) (fun c3 => ?_)
  · rw [if_pos c3] at hf
    refine V_iconst (pc := 24) (v := (-1)) X (th_da dtX4_peak 12 rfl) (by decide) ?_
    exact V_iretF (pc := 25) X (th_da dtX4_peak 13 rfl) hf
  · rw [if_neg c3] at hf
    refine V_iload_n (pc := 12) X (th_da dtX4_peak 6 rfl) rfl ?_
    refine V_i2l (pc := 13) X (th_da dtX4_peak 7 rfl) ?_
    refine V_lconst (pc := 14) (v := 1) X (th_da dtX4_peak 8 rfl) (by decide) ?_
    refine V_ldc2 (pc := 15) (v := 60) X (th_da dtX4_peak 9 rfl) wcl_X4_251 ?_
    obtain ⟨u4, h4, e4, hf⟩ := th_bd_some hf
    refine V_callSi (pc := 18) (As := [.long (Int32.toInt64 x2), .long 1, .long 60]) X (th_da dtX4_peak 10 rfl) (mX4_in l _ _ _ _ _ _ e4) wcd_X4_in wml_X4_63 wst_X4_in win_X4_in hd_X4_in ⟨Nat.le_of_ble_eq_true rfl, Nat.le_of_ble_eq_true rfl⟩ (Nat.le_of_ble_eq_true rfl) rfl ?_
    refine V_if_ne (pc := 21) (tgt := 26) X (th_da dtX4_peak 11 rfl) (by decide) (fun c5 => ?_) (fun c5 => ?_)
    · rw [if_pos c5] at hf
      refine V_iconst (pc := 24) (v := (-1)) X (th_da dtX4_peak 12 rfl) (by decide) ?_
      exact V_iretF (pc := 25) X (th_da dtX4_peak 13 rfl) hf
    · rw [if_neg c5] at hf
      refine V_aload_n (pc := 26) X (th_da dtX4_peak 14 rfl) rfl ?_
      obtain ⟨u6, h6, e6, hf⟩ := th_bd_some hf
      refine V_callVv (pc := 27) (q := 0) (As := []) X (th_da dtX4_peak 15 rfl) (mX4_think l _ _ _ e6) wcd_X4_think wml_X4_245 wim_X4_think wse_X4_think win_X4_think hd_X4_think ⟨Nat.le_of_ble_eq_true rfl, Nat.le_of_ble_eq_true rfl⟩ (Nat.le_of_ble_eq_true rfl) rfl rfl rfl ?_
      refine V_iconst (pc := 30) (v := 0) X (th_da dtX4_peak 16 rfl) (by decide) ?_
      refine V_istore_n (pc := 31) (ls2 := [.ref 0, .int x1, .int x2, .int 0, .null]) X (th_da dtX4_peak 17 rfl) (Nat.le_of_ble_eq_true rfl) rfl rfl ?_
      refine V_iconst (pc := 32) (v := 0) X (th_da dtX4_peak 18 rfl) (by decide) ?_
      refine V_istore (pc := 33) (ls2 := [.ref 0, .int x1, .int x2, .int 0, .int 0]) X (th_da dtX4_peak 19 rfl) (Nat.le_of_ble_eq_true rfl) rfl rfl ?_
      exact tX4_peak_c35 X _ _ _ _ _ _ hf
end
def fX4_off_c50 (k13 : Int64 → Int32 → th_H → Option (Int64 × th_H)) (y1 : Int64) (y3 : Int32) (z0 : Int32) (h : th_H) : Option (Int64 × th_H) :=
  if (z0 < 0 : Prop) then
    k13 (y1 + (Int32.toInt64 (-z0))) (y3 + 1) h
  else
    k13 (y1 + (Int32.toInt64 z0)) (y3 + 1) h
def fX4_off_c13 : Nat → Int64 → Int32 → th_H → Option (Int64 × th_H)
  | 0, _, _, _ => none
  | n + 1, y1, y3, h =>
    if (y3 < 20 : Prop) then
      th_bd (fX4_isFlow y3 h) fun u2 h2 =>
      if (u2 = 0 : Prop) then
        fX4_off_c50 (fX4_off_c13 n) y1 y3 0 h2
      else
        th_bd (fX4_at y3 h2) fun u4 h4 =>
        th_rd h4 2 643 (u4 + 7) fun v5 =>
        th_rd h4 7 20 y3 fun v6 =>
        fX4_off_c50 (fX4_off_c13 n) y1 y3 (v5 - v6) h4
    else
      some (y1, h)
def fX4_off (h : th_H) : Option (Int64 × th_H) :=
  th_st (th_up h 0 0 0) fun h1 =>
  th_bd (fX4_layFair h1) fun _u2 h2 =>
  fX4_off_c13 1000 0 0 h2
def tbX4_off : List (Nat × Instr × Nat) := [(0, .aload_n 0, 1), (1, .iconst 0, 1), (2, .putfield 55, 3), (5, .aload_n 0, 1), (6, .invokevirtual 207, 3), (9, .lconst 0, 1), (10, .lstore_n 1, 1), (11, .iconst 0, 1), (12, .istore_n 3, 1), (13, .iload_n 3, 1), (14, .bipush 20, 2), (16, .if_icmp .ge 60, 3), (19, .aload_n 0, 1), (20, .iload_n 3, 1), (21, .invokevirtual 125, 3), (24, .ifCond .eq 25, 3), (27, .aload_n 0, 1), (28, .getfield 15, 3), (31, .iload_n 3, 1), (32, .invokestatic 71, 3), (35, .bipush 7, 2), (37, .iadd, 1), (38, .iaload, 1), (39, .aload_n 0, 1), (40, .getfield 31, 3), (43, .iload_n 3, 1), (44, .iaload, 1), (45, .isub, 1), (46, .goto 4, 3), (49, .iconst 0, 1), (50, .istore 4, 2), (52, .lload_n 1, 1), (53, .iload 4, 2), (55, .ifCond .ge 10, 3), (58, .iload 4, 2), (60, .ineg, 1), (61, .i2l, 1), (62, .goto 6, 3), (65, .iload 4, 2), (67, .i2l, 1), (68, .ladd, 1), (69, .lstore_n 1, 1), (70, .iinc 3 1, 3), (73, .goto (-60), 3), (76, .lload_n 1, 1), (77, .lreturn, 1)]
theorem dtX4_off : th_dec cX4_off tbX4_off = true := by decide +kernel
section
variable {p0 : Program} {l : Launch} {e : Env} {s : State} {m : MethodId} {args : Array Value} {below : List Frame} {meth : Method} {c : Code} {D : va_G} {cI cZ : ClassId} {ad : Nat → Nat} {rr : Int64} {hh : th_H}
set_option maxHeartbeats 4000000 in
set_option maxRecDepth 100000 in
theorem tX4_off_c50 (X : th_X p0 s m args meth c D cI cZ ad LM 5 RX4 cX4_off (some .long)) (k13 : Int64 → Int32 → th_H → Option (Int64 × th_H)) (hk13 : ∀ (y1 : Int64) (y3 : Int32) (h : th_H), k13 y1 y3 h = some (rr, hh) → th_V p0 l e { frames := 5, cells := 0, slots := 0, locals := 115 } s m args below meth c D cI cZ ad LM 5 (some (.long rr)) hh 13 [.ref 0, .long y1, .null, .int y3, .null] [] h) (y1 : Int64) (y3 : Int32) (z0 : Int32) (h : th_H) (hf : fX4_off_c50 k13 y1 y3 z0 h = some (rr, hh)) : th_V p0 l e { frames := 5, cells := 0, slots := 0, locals := 115 } s m args below meth c D cI cZ ad LM 5 (some (.long rr)) hh 50 [.ref 0, .long y1, .null, .int y3, .null] [.int z0] h := by
  unfold fX4_off_c50 at hf
  refine V_istore (pc := 50) (ls2 := [.ref 0, .long y1, .null, .int y3, .int z0]) X (th_da dtX4_off 30 rfl) (Nat.le_of_ble_eq_true rfl) rfl rfl ?_
  refine V_lload_n (pc := 52) X (th_da dtX4_off 31 rfl) rfl ?_
  refine V_iload (pc := 53) X (th_da dtX4_off 32 rfl) rfl ?_
  refine V_if_ge (pc := 55) (tgt := 65) X (th_da dtX4_off 33 rfl) (by decide) (fun c1 => ?_) (fun c1 => ?_)
  · rw [if_pos c1] at hf
    refine V_iload (pc := 58) X (th_da dtX4_off 34 rfl) rfl ?_
    refine V_ineg (pc := 60) X (th_da dtX4_off 35 rfl) ?_
    refine V_i2l (pc := 61) X (th_da dtX4_off 36 rfl) ?_
    refine V_goto (pc := 62) (tgt := 68) X (th_da dtX4_off 37 rfl) (by decide) ?_
    refine V_ladd (pc := 68) X (th_da dtX4_off 40 rfl) ?_
    refine V_lstore_n (pc := 69) (ls2 := [.ref 0, .long (y1 + (Int32.toInt64 (-z0))), .null, .int y3, .int z0]) X (th_da dtX4_off 41 rfl) (Nat.le_of_ble_eq_true rfl) rfl rfl ?_
    refine V_iinc (pc := 70) (v := y3 + 1) (ls2 := [.ref 0, .long (y1 + (Int32.toInt64 (-z0))), .null, .int (y3 + 1), .int z0]) X (th_da dtX4_off 42 rfl) rfl rfl (Nat.le_of_ble_eq_true rfl) rfl rfl ?_
    refine V_goto (pc := 73) (tgt := 13) X (th_da dtX4_off 43 rfl) (by decide) ?_
    refine V_mask [true, true, false, true, false] (ls2 := [.ref 0, .long (y1 + (Int32.toInt64 (-z0))), .null, .int (y3 + 1), .null]) rfl ?_
    exact hk13 _ _ _ hf
  · rw [if_neg c1] at hf
    refine V_iload (pc := 65) X (th_da dtX4_off 38 rfl) rfl ?_
    refine V_i2l (pc := 67) X (th_da dtX4_off 39 rfl) ?_
    refine V_ladd (pc := 68) X (th_da dtX4_off 40 rfl) ?_
    refine V_lstore_n (pc := 69) (ls2 := [.ref 0, .long (y1 + (Int32.toInt64 z0)), .null, .int y3, .int z0]) X (th_da dtX4_off 41 rfl) (Nat.le_of_ble_eq_true rfl) rfl rfl ?_
    refine V_iinc (pc := 70) (v := y3 + 1) (ls2 := [.ref 0, .long (y1 + (Int32.toInt64 z0)), .null, .int (y3 + 1), .int z0]) X (th_da dtX4_off 42 rfl) rfl rfl (Nat.le_of_ble_eq_true rfl) rfl rfl ?_
    refine V_goto (pc := 73) (tgt := 13) X (th_da dtX4_off 43 rfl) (by decide) ?_
    refine V_mask [true, true, false, true, false] (ls2 := [.ref 0, .long (y1 + (Int32.toInt64 z0)), .null, .int (y3 + 1), .null]) rfl ?_
    exact hk13 _ _ _ hf
set_option maxHeartbeats 4000000 in
set_option maxRecDepth 100000 in
theorem tX4_off_c13 (X : th_X p0 s m args meth c D cI cZ ad LM 5 RX4 cX4_off (some .long)) : ∀ (n : Nat) (y1 : Int64) (y3 : Int32) (h : th_H), fX4_off_c13 n y1 y3 h = some (rr, hh) → th_V p0 l e { frames := 5, cells := 0, slots := 0, locals := 115 } s m args below meth c D cI cZ ad LM 5 (some (.long rr)) hh 13 [.ref 0, .long y1, .null, .int y3, .null] [] h := by
  intro n
  induction n with
  | zero => intro y1 y3 h hf; cases hf
  | succ n ih =>
    intro y1 y3 h hf
    rw [fX4_off_c13] at hf
    refine V_iload_n (pc := 13) X (th_da dtX4_off 9 rfl) rfl ?_
    refine V_bipush (pc := 14) (v := 20) X (th_da dtX4_off 10 rfl) (by decide) ?_
    refine V_icmp_ge (pc := 16) (tgt := 76) X (th_da dtX4_off 11 rfl) (by decide) (fun c1 => ?_) (fun c1 => ?_)
    · rw [if_pos c1] at hf
      refine V_aload_n (pc := 19) X (th_da dtX4_off 12 rfl) rfl ?_
      refine V_iload_n (pc := 20) X (th_da dtX4_off 13 rfl) rfl ?_
      obtain ⟨u2, h2, e2, hf⟩ := th_bd_some hf
      refine V_callVi (pc := 21) (q := 0) (As := [.int y3]) X (th_da dtX4_off 14 rfl) (mX4_isFlow l _ _ _ _ e2) wcd_X4_isFlow wml_X4_125 wim_X4_isFlow wse_X4_isFlow win_X4_isFlow hd_X4_isFlow ⟨Nat.le_of_ble_eq_true rfl, Nat.le_of_ble_eq_true rfl⟩ (Nat.le_of_ble_eq_true rfl) rfl rfl rfl ?_
      refine V_if_eq (pc := 24) (tgt := 49) X (th_da dtX4_off 15 rfl) (by decide) (fun c3 => ?_) (fun c3 => ?_)
      · rw [if_pos c3] at hf
        refine V_iconst (pc := 49) (v := 0) X (th_da dtX4_off 29 rfl) (by decide) ?_
        exact tX4_off_c50 X _ ih _ _ _ _ hf
      · rw [if_neg c3] at hf
        refine V_aload_n (pc := 27) X (th_da dtX4_off 16 rfl) rfl ?_
        refine V_getR (pc := 28) (j := 2) (t := 2) X (th_da dtX4_off 17 rfl) wfl_X4_15 iX4 rfl rfl (Nat.le_of_ble_eq_true rfl) rfl ?_
        refine V_iload_n (pc := 31) X (th_da dtX4_off 18 rfl) rfl ?_
        obtain ⟨u4, h4, e4, hf⟩ := th_bd_some hf
        refine V_callSi (pc := 32) (As := [.int y3]) X (th_da dtX4_off 19 rfl) (mX4_at l _ _ _ _ e4) wcd_X4_at wml_X4_71 wst_X4_at win_X4_at hd_X4_at ⟨Nat.le_of_ble_eq_true rfl, Nat.le_of_ble_eq_true rfl⟩ (Nat.le_of_ble_eq_true rfl) rfl ?_
        refine V_bipush (pc := 35) (v := 7) X (th_da dtX4_off 20 rfl) (by decide) ?_
        refine V_iadd (pc := 37) X (th_da dtX4_off 21 rfl) ?_
        obtain ⟨v5, e5, g5, hf⟩ := th_rd_some hf
        refine V_iald (pc := 38) X (th_da dtX4_off 22 rfl) rfl g5 e5 ?_
        refine V_aload_n (pc := 39) X (th_da dtX4_off 23 rfl) rfl ?_
        refine V_getR (pc := 40) (j := 7) (t := 7) X (th_da dtX4_off 24 rfl) wfl_X4_31 iX4 rfl rfl (Nat.le_of_ble_eq_true rfl) rfl ?_
        refine V_iload_n (pc := 43) X (th_da dtX4_off 25 rfl) rfl ?_
        obtain ⟨v6, e6, g6, hf⟩ := th_rd_some hf
        refine V_iald (pc := 44) X (th_da dtX4_off 26 rfl) rfl g6 e6 ?_
        refine V_isub (pc := 45) X (th_da dtX4_off 27 rfl) ?_
        refine V_goto (pc := 46) (tgt := 50) X (th_da dtX4_off 28 rfl) (by decide) ?_
        exact tX4_off_c50 X _ ih _ _ _ _ hf
    · rw [if_neg c1] at hf
      refine V_lload_n (pc := 76) X (th_da dtX4_off 44 rfl) rfl ?_
      exact V_lretF (pc := 77) X (th_da dtX4_off 45 rfl) hf
set_option maxHeartbeats 4000000 in
set_option maxRecDepth 100000 in
theorem mX4_off (l : Launch) (h : th_H) (rr : Int64) (hh : th_H) (hf : fX4_off h = some (rr, hh)) : th_MI l LM yX4_off cX4_off 5 (some .long) 5 115 [.ref 0] h (some (.long rr)) hh := by
  refine th_MI_of (ls := [.ref 0, .null, .null, .null, .null]) RX4 rfl rfl rfl (Nat.le_of_ble_eq_true rfl) ?_
  intro p0 e s m args below meth c D cI cZ ad X
  unfold fX4_off at hf
  refine V_aload_n (pc := 0) X (th_da dtX4_off 0 rfl) rfl ?_
  refine V_iconst (pc := 1) (v := 0) X (th_da dtX4_off 1 rfl) (by decide) ?_
  obtain ⟨h1, e1, hf⟩ := th_st_some hf
  refine V_putI (pc := 2) (j := 0) (ty := .int) X (th_da dtX4_off 2 rfl) wfl_X4_55 iX4 rfl rfl (Nat.le_of_ble_eq_true rfl) rfl tyX4 tyX4_ok nmX4 rfl (tyX4_ok 0 (Nat.le_of_ble_eq_true rfl)) rfl rfl e1 ?_
  refine V_aload_n (pc := 5) X (th_da dtX4_off 3 rfl) rfl ?_
  obtain ⟨u2, h2, e2, hf⟩ := th_bd_some hf
  refine V_callVv (pc := 6) (q := 0) (As := []) X (th_da dtX4_off 4 rfl) (mX4_layFair l _ _ _ e2) wcd_X4_layFair wml_X4_207 wim_X4_layFair wse_X4_layFair win_X4_layFair hd_X4_layFair ⟨Nat.le_of_ble_eq_true rfl, Nat.le_of_ble_eq_true rfl⟩ (Nat.le_of_ble_eq_true rfl) rfl rfl rfl ?_
  refine V_lconst (pc := 9) (v := 0) X (th_da dtX4_off 5 rfl) (by decide) ?_
  refine V_lstore_n (pc := 10) (ls2 := [.ref 0, .long 0, .null, .null, .null]) X (th_da dtX4_off 6 rfl) (Nat.le_of_ble_eq_true rfl) rfl rfl ?_
  refine V_iconst (pc := 11) (v := 0) X (th_da dtX4_off 7 rfl) (by decide) ?_
  refine V_istore_n (pc := 12) (ls2 := [.ref 0, .long 0, .null, .int 0, .null]) X (th_da dtX4_off 8 rfl) (Nat.le_of_ble_eq_true rfl) rfl rfl ?_
  exact tX4_off_c13 X _ _ _ _ hf
end
def fX4_would (x1 : Int32) (x2 : Int32) (x3 : Int32) (x4 : Int32) (h : th_H) : Option (Int32 × th_H) :=
  th_st (th_up h 0 0 0) fun h1 =>
  th_bd (fX4_whyNot x1 x2 x3 x4 h1) fun u2 h2 =>
  if (u2 = (-1) : Prop) then
    th_bd (fX4_think h2) fun _u4 h4 =>
    th_bd (fX4_freeNumber h4) fun u5 h5 =>
    th_bd (fX4_lay u5 0 x1 x2 x3 x4 h5) fun _u6 h6 =>
    th_bd (fX4_layFair h6) fun _u7 h7 =>
    th_bd (fX4_fairRate u5 h7) fun u8 h8 =>
    th_bd (fX4_endThought h8) fun _u9 h9 =>
    some (u8, h9)
  else
    some ((-1), h2)
def tbX4_would : List (Nat × Instr × Nat) := [(0, .aload_n 0, 1), (1, .iconst 0, 1), (2, .putfield 55, 3), (5, .aload_n 0, 1), (6, .iload_n 1, 1), (7, .iload_n 2, 1), (8, .iload_n 3, 1), (9, .iload 4, 2), (11, .invokevirtual 112, 3), (14, .iconst (-1), 1), (15, .if_icmp .eq 5, 3), (18, .iconst (-1), 1), (19, .ireturn, 1), (20, .aload_n 0, 1), (21, .invokevirtual 245, 3), (24, .aload_n 0, 1), (25, .invokevirtual 101, 3), (28, .istore 5, 2), (30, .aload_n 0, 1), (31, .iload 5, 2), (33, .iconst 0, 1), (34, .iload_n 1, 1), (35, .iload_n 2, 1), (36, .iload_n 3, 1), (37, .iload 4, 2), (39, .invokevirtual 121, 3), (42, .aload_n 0, 1), (43, .invokevirtual 207, 3), (46, .aload_n 0, 1), (47, .iload 5, 2), (49, .invokevirtual 199, 3), (52, .istore 6, 2), (54, .aload_n 0, 1), (55, .invokevirtual 248, 3), (58, .iload 6, 2), (60, .ireturn, 1)]
theorem dtX4_would : th_dec cX4_would tbX4_would = true := by decide +kernel
section
variable {p0 : Program} {l : Launch} {e : Env} {s : State} {m : MethodId} {args : Array Value} {below : List Frame} {meth : Method} {c : Code} {D : va_G} {cI cZ : ClassId} {ad : Nat → Nat} {rr : Int32} {hh : th_H}
set_option maxHeartbeats 4000000 in
set_option maxRecDepth 100000 in
theorem mX4_would (l : Launch) (x1 : Int32) (x2 : Int32) (x3 : Int32) (x4 : Int32) (h : th_H) (rr : Int32) (hh : th_H) (hf : fX4_would x1 x2 x3 x4 h = some (rr, hh)) : th_MI l LM yX4_would cX4_would 7 (some .int) 5 115 [.ref 0, .int x1, .int x2, .int x3, .int x4] h (some (.int rr)) hh := by
  refine th_MI_of (ls := [.ref 0, .int x1, .int x2, .int x3, .int x4, .null, .null]) RX4 rfl rfl rfl (Nat.le_of_ble_eq_true rfl) ?_
  intro p0 e s m args below meth c D cI cZ ad X
  unfold fX4_would at hf
  refine V_aload_n (pc := 0) X (th_da dtX4_would 0 rfl) rfl ?_
  refine V_iconst (pc := 1) (v := 0) X (th_da dtX4_would 1 rfl) (by decide) ?_
  obtain ⟨h1, e1, hf⟩ := th_st_some hf
  refine V_putI (pc := 2) (j := 0) (ty := .int) X (th_da dtX4_would 2 rfl) wfl_X4_55 iX4 rfl rfl (Nat.le_of_ble_eq_true rfl) rfl tyX4 tyX4_ok nmX4 rfl (tyX4_ok 0 (Nat.le_of_ble_eq_true rfl)) rfl rfl e1 ?_
  refine V_aload_n (pc := 5) X (th_da dtX4_would 3 rfl) rfl ?_
  refine V_iload_n (pc := 6) X (th_da dtX4_would 4 rfl) rfl ?_
  refine V_iload_n (pc := 7) X (th_da dtX4_would 5 rfl) rfl ?_
  refine V_iload_n (pc := 8) X (th_da dtX4_would 6 rfl) rfl ?_
  refine V_iload (pc := 9) X (th_da dtX4_would 7 rfl) rfl ?_
  obtain ⟨u2, h2, e2, hf⟩ := th_bd_some hf
  refine V_callVi (pc := 11) (q := 0) (As := [.int x1, .int x2, .int x3, .int x4]) X (th_da dtX4_would 8 rfl) (mX4_whyNot l _ _ _ _ _ _ _ e2) wcd_X4_whyNot wml_X4_112 wim_X4_whyNot wse_X4_whyNot win_X4_whyNot hd_X4_whyNot ⟨Nat.le_of_ble_eq_true rfl, Nat.le_of_ble_eq_true rfl⟩ (Nat.le_of_ble_eq_true rfl) rfl rfl rfl ?_
  refine V_iconst (pc := 14) (v := (-1)) X (th_da dtX4_would 9 rfl) (by decide) ?_
  refine V_icmp_eq (pc := 15) (tgt := 20) X (th_da dtX4_would 10 rfl) (by decide) (fun c3 => ?_) (fun c3 => ?_)
  · rw [if_pos c3] at hf
    refine V_aload_n (pc := 20) X (th_da dtX4_would 13 rfl) rfl ?_
    obtain ⟨u4, h4, e4, hf⟩ := th_bd_some hf
    refine V_callVv (pc := 21) (q := 0) (As := []) X (th_da dtX4_would 14 rfl) (mX4_think l _ _ _ e4) wcd_X4_think wml_X4_245 wim_X4_think wse_X4_think win_X4_think hd_X4_think ⟨Nat.le_of_ble_eq_true rfl, Nat.le_of_ble_eq_true rfl⟩ (Nat.le_of_ble_eq_true rfl) rfl rfl rfl ?_
    refine V_aload_n (pc := 24) X (th_da dtX4_would 15 rfl) rfl ?_
    obtain ⟨u5, h5, e5, hf⟩ := th_bd_some hf
    refine V_callVi (pc := 25) (q := 0) (As := []) X (th_da dtX4_would 16 rfl) (mX4_freeNumber l _ _ _ e5) wcd_X4_freeNumber wml_X4_101 wim_X4_freeNumber wse_X4_freeNumber win_X4_freeNumber hd_X4_freeNumber ⟨Nat.le_of_ble_eq_true rfl, Nat.le_of_ble_eq_true rfl⟩ (Nat.le_of_ble_eq_true rfl) rfl rfl rfl ?_
    refine V_istore (pc := 28) (ls2 := [.ref 0, .int x1, .int x2, .int x3, .int x4, .int u5, .null]) X (th_da dtX4_would 17 rfl) (Nat.le_of_ble_eq_true rfl) rfl rfl ?_
    refine V_aload_n (pc := 30) X (th_da dtX4_would 18 rfl) rfl ?_
    refine V_iload (pc := 31) X (th_da dtX4_would 19 rfl) rfl ?_
    refine V_iconst (pc := 33) (v := 0) X (th_da dtX4_would 20 rfl) (by decide) ?_
    refine V_iload_n (pc := 34) X (th_da dtX4_would 21 rfl) rfl ?_
    refine V_iload_n (pc := 35) X (th_da dtX4_would 22 rfl) rfl ?_
    refine V_iload_n (pc := 36) X (th_da dtX4_would 23 rfl) rfl ?_
    refine V_iload (pc := 37) X (th_da dtX4_would 24 rfl) rfl ?_
    obtain ⟨u6, h6, e6, hf⟩ := th_bd_some hf
    refine V_callVv (pc := 39) (q := 0) (As := [.int u5, .int 0, .int x1, .int x2, .int x3, .int x4]) X (th_da dtX4_would 25 rfl) (mX4_lay l _ _ _ _ _ _ _ _ _ e6) wcd_X4_lay wml_X4_121 wim_X4_lay wse_X4_lay win_X4_lay hd_X4_lay ⟨Nat.le_of_ble_eq_true rfl, Nat.le_of_ble_eq_true rfl⟩ (Nat.le_of_ble_eq_true rfl) rfl rfl rfl ?_
    refine V_aload_n (pc := 42) X (th_da dtX4_would 26 rfl) rfl ?_
    obtain ⟨u7, h7, e7, hf⟩ := th_bd_some hf
    refine V_callVv (pc := 43) (q := 0) (As := []) X (th_da dtX4_would 27 rfl) (mX4_layFair l _ _ _ e7) wcd_X4_layFair wml_X4_207 wim_X4_layFair wse_X4_layFair win_X4_layFair hd_X4_layFair ⟨Nat.le_of_ble_eq_true rfl, Nat.le_of_ble_eq_true rfl⟩ (Nat.le_of_ble_eq_true rfl) rfl rfl rfl ?_
    refine V_aload_n (pc := 46) X (th_da dtX4_would 28 rfl) rfl ?_
    refine V_iload (pc := 47) X (th_da dtX4_would 29 rfl) rfl ?_
    obtain ⟨u8, h8, e8, hf⟩ := th_bd_some hf
    refine V_callVi (pc := 49) (q := 0) (As := [.int u5]) X (th_da dtX4_would 30 rfl) (mX4_fairRate l _ _ _ _ e8) wcd_X4_fairRate wml_X4_199 wim_X4_fairRate wse_X4_fairRate win_X4_fairRate hd_X4_fairRate ⟨Nat.le_of_ble_eq_true rfl, Nat.le_of_ble_eq_true rfl⟩ (Nat.le_of_ble_eq_true rfl) rfl rfl rfl ?_
    refine V_istore (pc := 52) (ls2 := [.ref 0, .int x1, .int x2, .int x3, .int x4, .int u5, .int u8]) X (th_da dtX4_would 31 rfl) (Nat.le_of_ble_eq_true rfl) rfl rfl ?_
    refine V_aload_n (pc := 54) X (th_da dtX4_would 32 rfl) rfl ?_
    obtain ⟨u9, h9, e9, hf⟩ := th_bd_some hf
    refine V_callVv (pc := 55) (q := 0) (As := []) X (th_da dtX4_would 33 rfl) (mX4_endThought l _ _ _ e9) wcd_X4_endThought wml_X4_248 wim_X4_endThought wse_X4_endThought win_X4_endThought hd_X4_endThought ⟨Nat.le_of_ble_eq_true rfl, Nat.le_of_ble_eq_true rfl⟩ (Nat.le_of_ble_eq_true rfl) rfl rfl rfl ?_
    refine V_iload (pc := 58) X (th_da dtX4_would 34 rfl) rfl ?_
    exact V_iretF (pc := 60) X (th_da dtX4_would 35 rfl) hf
  · rw [if_neg c3] at hf
    refine V_iconst (pc := 18) (v := (-1)) X (th_da dtX4_would 11 rfl) (by decide) ?_
    exact V_iretF (pc := 19) X (th_da dtX4_would 12 rfl) hf
end
def fX4_better_c41 (y1 : Int32) (z0 : Int32) (h : th_H) : Option (Int32 × th_H) :=
  th_bd (fX4_layFair h) fun _u1 h1 =>
  if (z0 = 0 : Prop) then
    th_bd (fX4_endThought h1) fun _u3 h3 =>
    some ((-1), h3)
  else
    th_bd (fX4_fairRate y1 h1) fun u4 h4 =>
    th_bd (fX4_endThought h4) fun _u5 h5 =>
    some (u4, h5)
def fX4_better (x1 : Int32) (x2 : Int32) (h : th_H) : Option (Int32 × th_H) :=
  th_st (th_up h 0 0 0) fun h1 =>
  th_bd (fX4_areLinks x2 h1) fun u2 h2 =>
  if (u2 = 0 : Prop) then
    some ((-1), h2)
  else
    th_bd (fX4_isFlow x1 h2) fun u4 h4 =>
    if (u4 = 0 : Prop) then
      some ((-1), h4)
    else
      th_bd (fX4_think h4) fun _u6 h6 =>
      th_bd (fX4_reroute x1 x2 h6) fun u7 h7 =>
      if (u7 = (-1) : Prop) then
        fX4_better_c41 x1 0 h7
      else
        fX4_better_c41 x1 1 h7
def tbX4_better : List (Nat × Instr × Nat) := [(0, .aload_n 0, 1), (1, .iconst 0, 1), (2, .putfield 55, 3), (5, .iload_n 2, 1), (6, .invokestatic 98, 3), (9, .ifCond .eq 11, 3), (12, .aload_n 0, 1), (13, .iload_n 1, 1), (14, .invokevirtual 125, 3), (17, .ifCond .ne 5, 3), (20, .iconst (-1), 1), (21, .ireturn, 1), (22, .aload_n 0, 1), (23, .invokevirtual 245, 3), (26, .aload_n 0, 1), (27, .iload_n 1, 1), (28, .iload_n 2, 1), (29, .invokevirtual 143, 3), (32, .iconst (-1), 1), (33, .if_icmp .eq 7, 3), (36, .iconst 1, 1), (37, .goto 4, 3), (40, .iconst 0, 1), (41, .istore_n 3, 1), (42, .aload_n 0, 1), (43, .invokevirtual 207, 3), (46, .iload_n 3, 1), (47, .ifCond .eq 11, 3), (50, .aload_n 0, 1), (51, .iload_n 1, 1), (52, .invokevirtual 199, 3), (55, .goto 4, 3), (58, .iconst (-1), 1), (59, .istore 4, 2), (61, .aload_n 0, 1), (62, .invokevirtual 248, 3), (65, .iload 4, 2), (67, .ireturn, 1)]
theorem dtX4_better : th_dec cX4_better tbX4_better = true := by decide +kernel
section
variable {p0 : Program} {l : Launch} {e : Env} {s : State} {m : MethodId} {args : Array Value} {below : List Frame} {meth : Method} {c : Code} {D : va_G} {cI cZ : ClassId} {ad : Nat → Nat} {rr : Int32} {hh : th_H}
set_option maxHeartbeats 4000000 in
set_option maxRecDepth 100000 in
theorem tX4_better_c41 (X : th_X p0 s m args meth c D cI cZ ad LM 5 RX4 cX4_better (some .int)) (y1 : Int32) (z0 : Int32) (h : th_H) (hf : fX4_better_c41 y1 z0 h = some (rr, hh)) : th_V p0 l e { frames := 5, cells := 0, slots := 0, locals := 115 } s m args below meth c D cI cZ ad LM 5 (some (.int rr)) hh 41 [.ref 0, .int y1, .null, .null, .null] [.int z0] h := by
  unfold fX4_better_c41 at hf
  refine V_istore_n (pc := 41) (ls2 := [.ref 0, .int y1, .null, .int z0, .null]) X (th_da dtX4_better 23 rfl) (Nat.le_of_ble_eq_true rfl) rfl rfl ?_
  refine V_aload_n (pc := 42) X (th_da dtX4_better 24 rfl) rfl ?_
  obtain ⟨u1, h1, e1, hf⟩ := th_bd_some hf
  refine V_callVv (pc := 43) (q := 0) (As := []) X (th_da dtX4_better 25 rfl) (mX4_layFair l _ _ _ e1) wcd_X4_layFair wml_X4_207 wim_X4_layFair wse_X4_layFair win_X4_layFair hd_X4_layFair ⟨Nat.le_of_ble_eq_true rfl, Nat.le_of_ble_eq_true rfl⟩ (Nat.le_of_ble_eq_true rfl) rfl rfl rfl ?_
  refine V_iload_n (pc := 46) X (th_da dtX4_better 26 rfl) rfl ?_
  refine V_if_eq (pc := 47) (tgt := 58) X (th_da dtX4_better 27 rfl) (by decide) (fun c2 => ?_) (fun c2 => ?_)
  · rw [if_pos c2] at hf
    refine V_iconst (pc := 58) (v := (-1)) X (th_da dtX4_better 32 rfl) (by decide) ?_
    refine V_istore (pc := 59) (ls2 := [.ref 0, .int y1, .null, .int z0, .int (-1)]) X (th_da dtX4_better 33 rfl) (Nat.le_of_ble_eq_true rfl) rfl rfl ?_
    refine V_aload_n (pc := 61) X (th_da dtX4_better 34 rfl) rfl ?_
    obtain ⟨u3, h3, e3, hf⟩ := th_bd_some hf
    refine V_callVv (pc := 62) (q := 0) (As := []) X (th_da dtX4_better 35 rfl) (mX4_endThought l _ _ _ e3) wcd_X4_endThought wml_X4_248 wim_X4_endThought wse_X4_endThought win_X4_endThought hd_X4_endThought ⟨Nat.le_of_ble_eq_true rfl, Nat.le_of_ble_eq_true rfl⟩ (Nat.le_of_ble_eq_true rfl) rfl rfl rfl ?_
    refine V_iload (pc := 65) X (th_da dtX4_better 36 rfl) rfl ?_
    exact V_iretF (pc := 67) X (th_da dtX4_better 37 rfl) hf
  · rw [if_neg c2] at hf
    refine V_aload_n (pc := 50) X (th_da dtX4_better 28 rfl) rfl ?_
    refine V_iload_n (pc := 51) X (th_da dtX4_better 29 rfl) rfl ?_
    obtain ⟨u4, h4, e4, hf⟩ := th_bd_some hf
    refine V_callVi (pc := 52) (q := 0) (As := [.int y1]) X (th_da dtX4_better 30 rfl) (mX4_fairRate l _ _ _ _ e4) wcd_X4_fairRate wml_X4_199 wim_X4_fairRate wse_X4_fairRate win_X4_fairRate hd_X4_fairRate ⟨Nat.le_of_ble_eq_true rfl, Nat.le_of_ble_eq_true rfl⟩ (Nat.le_of_ble_eq_true rfl) rfl rfl rfl ?_
    refine V_goto (pc := 55) (tgt := 59) X (th_da dtX4_better 31 rfl) (by decide) ?_
    refine V_istore (pc := 59) (ls2 := [.ref 0, .int y1, .null, .int z0, .int u4]) X (th_da dtX4_better 33 rfl) (Nat.le_of_ble_eq_true rfl) rfl rfl ?_
    refine V_aload_n (pc := 61) X (th_da dtX4_better 34 rfl) rfl ?_
    obtain ⟨u5, h5, e5, hf⟩ := th_bd_some hf
    refine V_callVv (pc := 62) (q := 0) (As := []) X (th_da dtX4_better 35 rfl) (mX4_endThought l _ _ _ e5) wcd_X4_endThought wml_X4_248 wim_X4_endThought wse_X4_endThought win_X4_endThought hd_X4_endThought ⟨Nat.le_of_ble_eq_true rfl, Nat.le_of_ble_eq_true rfl⟩ (Nat.le_of_ble_eq_true rfl) rfl rfl rfl ?_
    refine V_iload (pc := 65) X (th_da dtX4_better 36 rfl) rfl ?_
    exact V_iretF (pc := 67) X (th_da dtX4_better 37 rfl) hf
set_option maxHeartbeats 4000000 in
set_option maxRecDepth 100000 in
theorem mX4_better (l : Launch) (x1 : Int32) (x2 : Int32) (h : th_H) (rr : Int32) (hh : th_H) (hf : fX4_better x1 x2 h = some (rr, hh)) : th_MI l LM yX4_better cX4_better 5 (some .int) 5 115 [.ref 0, .int x1, .int x2] h (some (.int rr)) hh := by
  refine th_MI_of (ls := [.ref 0, .int x1, .int x2, .null, .null]) RX4 rfl rfl rfl (Nat.le_of_ble_eq_true rfl) ?_
  intro p0 e s m args below meth c D cI cZ ad X
  unfold fX4_better at hf
  refine V_aload_n (pc := 0) X (th_da dtX4_better 0 rfl) rfl ?_
  refine V_iconst (pc := 1) (v := 0) X (th_da dtX4_better 1 rfl) (by decide) ?_
  obtain ⟨h1, e1, hf⟩ := th_st_some hf
  refine V_putI (pc := 2) (j := 0) (ty := .int) X (th_da dtX4_better 2 rfl) wfl_X4_55 iX4 rfl rfl (Nat.le_of_ble_eq_true rfl) rfl tyX4 tyX4_ok nmX4 rfl (tyX4_ok 0 (Nat.le_of_ble_eq_true rfl)) rfl rfl e1 ?_
  refine V_iload_n (pc := 5) X (th_da dtX4_better 3 rfl) rfl ?_
  obtain ⟨u2, h2, e2, hf⟩ := th_bd_some hf
  refine V_callSi (pc := 6) (As := [.int x2]) X (th_da dtX4_better 4 rfl) (mX4_areLinks l _ _ _ _ e2) wcd_X4_areLinks wml_X4_98 wst_X4_areLinks win_X4_areLinks hd_X4_areLinks ⟨Nat.le_of_ble_eq_true rfl, Nat.le_of_ble_eq_true rfl⟩ (Nat.le_of_ble_eq_true rfl) rfl ?_
  refine V_if_eq (pc := 9) (tgt := 20) X (th_da dtX4_better 5 rfl) (by decide) (fun c3 => ?_) (fun c3 => ?_)
  · rw [if_pos c3] at hf
    refine V_iconst (pc := 20) (v := (-1)) X (th_da dtX4_better 10 rfl) (by decide) ?_
    exact V_iretF (pc := 21) X (th_da dtX4_better 11 rfl) hf
  · rw [if_neg c3] at hf
    refine V_aload_n (pc := 12) X (th_da dtX4_better 6 rfl) rfl ?_
    refine V_iload_n (pc := 13) X (th_da dtX4_better 7 rfl) rfl ?_
    obtain ⟨u4, h4, e4, hf⟩ := th_bd_some hf
    refine V_callVi (pc := 14) (q := 0) (As := [.int x1]) X (th_da dtX4_better 8 rfl) (mX4_isFlow l _ _ _ _ e4) wcd_X4_isFlow wml_X4_125 wim_X4_isFlow wse_X4_isFlow win_X4_isFlow hd_X4_isFlow ⟨Nat.le_of_ble_eq_true rfl, Nat.le_of_ble_eq_true rfl⟩ (Nat.le_of_ble_eq_true rfl) rfl rfl rfl ?_
    refine V_if_ne (pc := 17) (tgt := 22) X (th_da dtX4_better 9 rfl) (by decide) (fun c5 => ?_) (fun c5 => ?_)
    · rw [if_pos c5] at hf
      refine V_iconst (pc := 20) (v := (-1)) X (th_da dtX4_better 10 rfl) (by decide) ?_
      exact V_iretF (pc := 21) X (th_da dtX4_better 11 rfl) hf
    · rw [if_neg c5] at hf
      refine V_aload_n (pc := 22) X (th_da dtX4_better 12 rfl) rfl ?_
      obtain ⟨u6, h6, e6, hf⟩ := th_bd_some hf
      refine V_callVv (pc := 23) (q := 0) (As := []) X (th_da dtX4_better 13 rfl) (mX4_think l _ _ _ e6) wcd_X4_think wml_X4_245 wim_X4_think wse_X4_think win_X4_think hd_X4_think ⟨Nat.le_of_ble_eq_true rfl, Nat.le_of_ble_eq_true rfl⟩ (Nat.le_of_ble_eq_true rfl) rfl rfl rfl ?_
      refine V_aload_n (pc := 26) X (th_da dtX4_better 14 rfl) rfl ?_
      refine V_iload_n (pc := 27) X (th_da dtX4_better 15 rfl) rfl ?_
      refine V_iload_n (pc := 28) X (th_da dtX4_better 16 rfl) rfl ?_
      obtain ⟨u7, h7, e7, hf⟩ := th_bd_some hf
      refine V_callVi (pc := 29) (q := 0) (As := [.int x1, .int x2]) X (th_da dtX4_better 17 rfl) (mX4_reroute l _ _ _ _ _ e7) wcd_X4_reroute wml_X4_143 wim_X4_reroute wse_X4_reroute win_X4_reroute hd_X4_reroute ⟨Nat.le_of_ble_eq_true rfl, Nat.le_of_ble_eq_true rfl⟩ (Nat.le_of_ble_eq_true rfl) rfl rfl rfl ?_
      refine V_iconst (pc := 32) (v := (-1)) X (th_da dtX4_better 18 rfl) (by decide) ?_
      refine V_icmp_eq (pc := 33) (tgt := 40) X (th_da dtX4_better 19 rfl) (by decide) (fun c8 => ?_) (fun c8 => ?_)
      · rw [if_pos c8] at hf
        refine V_iconst (pc := 40) (v := 0) X (th_da dtX4_better 22 rfl) (by decide) ?_
        refine V_mask [true, true, false, false, false] (ls2 := [.ref 0, .int x1, .null, .null, .null]) rfl ?_
        exact tX4_better_c41 X _ _ _ hf
      · rw [if_neg c8] at hf
        refine V_iconst (pc := 36) (v := 1) X (th_da dtX4_better 20 rfl) (by decide) ?_
        refine V_goto (pc := 37) (tgt := 41) X (th_da dtX4_better 21 rfl) (by decide) ?_
        refine V_mask [true, true, false, false, false] (ls2 := [.ref 0, .int x1, .null, .null, .null]) rfl ?_
        exact tX4_better_c41 X _ _ _ hf
end
def fX4_spares (x1 : Int32) (x2 : Int32) (h : th_H) : Option (Int32 × th_H) :=
  th_st (th_up h 0 0 0) fun h1 =>
  th_bd (fX4_isFlow x1 h1) fun u2 h2 =>
  if (u2 = 0 : Prop) then
    some ((-2147483648), h2)
  else
    th_bd (fX4_at x1 h2) fun u4 h4 =>
    th_rd h4 2 643 (u4 + 4) fun v5 =>
    th_bd (fX4_in (Int32.toInt64 x2) (Int32.toInt64 v5) 1000000 h4) fun u6 h6 =>
    if (u6 = 0 : Prop) then
      some ((-2147483648), h6)
    else
      th_bd (fX4_layFair h6) fun _u8 h8 =>
      th_bd (fX4_allRates h8) fun u9 h9 =>
      th_bd (fX4_fairRate x1 h9) fun u10 h10 =>
      th_bd (fX4_think h10) fun _u11 h11 =>
      th_bd (fX4_at x1 h11) fun u12 h12 =>
      th_wr h12 2 643 (u12 + 5) x2 fun h13 =>
      th_bd (fX4_layFair h13) fun _u14 h14 =>
      th_bd (fX4_allRates h14) fun u15 h15 =>
      th_bd (fX4_fairRate x1 h15) fun u16 h16 =>
      th_bd (fX4_endThought h16) fun _u17 h17 =>
      some ((u15 - u16) - (u9 - u10), h17)
def tbX4_spares : List (Nat × Instr × Nat) := [(0, .aload_n 0, 1), (1, .iconst 0, 1), (2, .putfield 55, 3), (5, .aload_n 0, 1), (6, .iload_n 1, 1), (7, .invokevirtual 125, 3), (10, .ifCond .eq 26, 3), (13, .iload_n 2, 1), (14, .i2l, 1), (15, .aload_n 0, 1), (16, .getfield 15, 3), (19, .iload_n 1, 1), (20, .invokestatic 71, 3), (23, .iconst 4, 1), (24, .iadd, 1), (25, .iaload, 1), (26, .i2l, 1), (27, .ldc2_w 86, 3), (30, .invokestatic 63, 3), (33, .ifCond .ne 6, 3), (36, .ldc 253, 2), (38, .ireturn, 1), (39, .aload_n 0, 1), (40, .invokevirtual 207, 3), (43, .aload_n 0, 1), (44, .invokevirtual 216, 3), (47, .aload_n 0, 1), (48, .iload_n 1, 1), (49, .invokevirtual 199, 3), (52, .isub, 1), (53, .istore_n 3, 1), (54, .aload_n 0, 1), (55, .invokevirtual 245, 3), (58, .aload_n 0, 1), (59, .getfield 15, 3), (62, .iload_n 1, 1), (63, .invokestatic 71, 3), (66, .iconst 5, 1), (67, .iadd, 1), (68, .iload_n 2, 1), (69, .iastore, 1), (70, .aload_n 0, 1), (71, .invokevirtual 207, 3), (74, .aload_n 0, 1), (75, .invokevirtual 216, 3), (78, .aload_n 0, 1), (79, .iload_n 1, 1), (80, .invokevirtual 199, 3), (83, .isub, 1), (84, .iload_n 3, 1), (85, .isub, 1), (86, .istore 4, 2), (88, .aload_n 0, 1), (89, .invokevirtual 248, 3), (92, .iload 4, 2), (94, .ireturn, 1)]
theorem dtX4_spares : th_dec cX4_spares tbX4_spares = true := by decide +kernel
section
variable {p0 : Program} {l : Launch} {e : Env} {s : State} {m : MethodId} {args : Array Value} {below : List Frame} {meth : Method} {c : Code} {D : va_G} {cI cZ : ClassId} {ad : Nat → Nat} {rr : Int32} {hh : th_H}
set_option maxHeartbeats 4000000 in
set_option maxRecDepth 100000 in
theorem mX4_spares (l : Launch) (x1 : Int32) (x2 : Int32) (h : th_H) (rr : Int32) (hh : th_H) (hf : fX4_spares x1 x2 h = some (rr, hh)) : th_MI l LM yX4_spares cX4_spares 5 (some .int) 5 115 [.ref 0, .int x1, .int x2] h (some (.int rr)) hh := by
  refine th_MI_of (ls := [.ref 0, .int x1, .int x2, .null, .null]) RX4 rfl rfl rfl (Nat.le_of_ble_eq_true rfl) ?_
  intro p0 e s m args below meth c D cI cZ ad X
  unfold fX4_spares at hf
  refine V_aload_n (pc := 0) X (th_da dtX4_spares 0 rfl) rfl ?_
  refine V_iconst (pc := 1) (v := 0) X (th_da dtX4_spares 1 rfl) (by decide) ?_
  obtain ⟨h1, e1, hf⟩ := th_st_some hf
  refine V_putI (pc := 2) (j := 0) (ty := .int) X (th_da dtX4_spares 2 rfl) wfl_X4_55 iX4 rfl rfl (Nat.le_of_ble_eq_true rfl) rfl tyX4 tyX4_ok nmX4 rfl (tyX4_ok 0 (Nat.le_of_ble_eq_true rfl)) rfl rfl e1 ?_
  refine V_aload_n (pc := 5) X (th_da dtX4_spares 3 rfl) rfl ?_
  refine V_iload_n (pc := 6) X (th_da dtX4_spares 4 rfl) rfl ?_
  obtain ⟨u2, h2, e2, hf⟩ := th_bd_some hf
  refine V_callVi (pc := 7) (q := 0) (As := [.int x1]) X (th_da dtX4_spares 5 rfl) (mX4_isFlow l _ _ _ _ e2) wcd_X4_isFlow wml_X4_125 wim_X4_isFlow wse_X4_isFlow win_X4_isFlow hd_X4_isFlow ⟨Nat.le_of_ble_eq_true rfl, Nat.le_of_ble_eq_true rfl⟩ (Nat.le_of_ble_eq_true rfl) rfl rfl rfl ?_
  refine V_if_eq (pc := 10) (tgt := 36) X (th_da dtX4_spares 6 rfl) (by decide) (fun c3 => ?_) (fun c3 => ?_)
  · rw [if_pos c3] at hf
    refine V_ldc (pc := 36) (v := (-2147483648)) X (th_da dtX4_spares 20 rfl) wco_X4_253 ?_
    exact V_iretF (pc := 38) X (th_da dtX4_spares 21 rfl) hf
  · rw [if_neg c3] at hf
    refine V_iload_n (pc := 13) X (th_da dtX4_spares 7 rfl) rfl ?_
    refine V_i2l (pc := 14) X (th_da dtX4_spares 8 rfl) ?_
    refine V_aload_n (pc := 15) X (th_da dtX4_spares 9 rfl) rfl ?_
    refine V_getR (pc := 16) (j := 2) (t := 2) X (th_da dtX4_spares 10 rfl) wfl_X4_15 iX4 rfl rfl (Nat.le_of_ble_eq_true rfl) rfl ?_
    refine V_iload_n (pc := 19) X (th_da dtX4_spares 11 rfl) rfl ?_
    obtain ⟨u4, h4, e4, hf⟩ := th_bd_some hf
    refine V_callSi (pc := 20) (As := [.int x1]) X (th_da dtX4_spares 12 rfl) (mX4_at l _ _ _ _ e4) wcd_X4_at wml_X4_71 wst_X4_at win_X4_at hd_X4_at ⟨Nat.le_of_ble_eq_true rfl, Nat.le_of_ble_eq_true rfl⟩ (Nat.le_of_ble_eq_true rfl) rfl ?_
    refine V_iconst (pc := 23) (v := 4) X (th_da dtX4_spares 13 rfl) (by decide) ?_
    refine V_iadd (pc := 24) X (th_da dtX4_spares 14 rfl) ?_
    obtain ⟨v5, e5, g5, hf⟩ := th_rd_some hf
    refine V_iald (pc := 25) X (th_da dtX4_spares 15 rfl) rfl g5 e5 ?_
    refine V_i2l (pc := 26) X (th_da dtX4_spares 16 rfl) ?_
    refine V_ldc2 (pc := 27) (v := 1000000) X (th_da dtX4_spares 17 rfl) wcl_X4_86 ?_
    obtain ⟨u6, h6, e6, hf⟩ := th_bd_some hf
    refine V_callSi (pc := 30) (As := [.long (Int32.toInt64 x2), .long (Int32.toInt64 v5), .long 1000000]) X (th_da dtX4_spares 18 rfl) (mX4_in l _ _ _ _ _ _ e6) wcd_X4_in wml_X4_63 wst_X4_in win_X4_in hd_X4_in ⟨Nat.le_of_ble_eq_true rfl, Nat.le_of_ble_eq_true rfl⟩ (Nat.le_of_ble_eq_true rfl) rfl ?_
    refine V_if_ne (pc := 33) (tgt := 39) X (th_da dtX4_spares 19 rfl) (by decide) (fun c7 => ?_) (fun c7 => ?_)
    · rw [if_pos c7] at hf
      refine V_ldc (pc := 36) (v := (-2147483648)) X (th_da dtX4_spares 20 rfl) wco_X4_253 ?_
      exact V_iretF (pc := 38) X (th_da dtX4_spares 21 rfl) hf
    · rw [if_neg c7] at hf
      refine V_aload_n (pc := 39) X (th_da dtX4_spares 22 rfl) rfl ?_
      obtain ⟨u8, h8, e8, hf⟩ := th_bd_some hf
      refine V_callVv (pc := 40) (q := 0) (As := []) X (th_da dtX4_spares 23 rfl) (mX4_layFair l _ _ _ e8) wcd_X4_layFair wml_X4_207 wim_X4_layFair wse_X4_layFair win_X4_layFair hd_X4_layFair ⟨Nat.le_of_ble_eq_true rfl, Nat.le_of_ble_eq_true rfl⟩ (Nat.le_of_ble_eq_true rfl) rfl rfl rfl ?_
      refine V_aload_n (pc := 43) X (th_da dtX4_spares 24 rfl) rfl ?_
      obtain ⟨u9, h9, e9, hf⟩ := th_bd_some hf
      refine V_callVi (pc := 44) (q := 0) (As := []) X (th_da dtX4_spares 25 rfl) (mX4_allRates l _ _ _ e9) wcd_X4_allRates wml_X4_216 wim_X4_allRates wse_X4_allRates win_X4_allRates hd_X4_allRates ⟨Nat.le_of_ble_eq_true rfl, Nat.le_of_ble_eq_true rfl⟩ (Nat.le_of_ble_eq_true rfl) rfl rfl rfl ?_
      refine V_aload_n (pc := 47) X (th_da dtX4_spares 26 rfl) rfl ?_
      refine V_iload_n (pc := 48) X (th_da dtX4_spares 27 rfl) rfl ?_
      obtain ⟨u10, h10, e10, hf⟩ := th_bd_some hf
      refine V_callVi (pc := 49) (q := 0) (As := [.int x1]) X (th_da dtX4_spares 28 rfl) (mX4_fairRate l _ _ _ _ e10) wcd_X4_fairRate wml_X4_199 wim_X4_fairRate wse_X4_fairRate win_X4_fairRate hd_X4_fairRate ⟨Nat.le_of_ble_eq_true rfl, Nat.le_of_ble_eq_true rfl⟩ (Nat.le_of_ble_eq_true rfl) rfl rfl rfl ?_
      refine V_isub (pc := 52) X (th_da dtX4_spares 29 rfl) ?_
      refine V_istore_n (pc := 53) (ls2 := [.ref 0, .int x1, .int x2, .int (u9 - u10), .null]) X (th_da dtX4_spares 30 rfl) (Nat.le_of_ble_eq_true rfl) rfl rfl ?_
      refine V_aload_n (pc := 54) X (th_da dtX4_spares 31 rfl) rfl ?_
      obtain ⟨u11, h11, e11, hf⟩ := th_bd_some hf
      refine V_callVv (pc := 55) (q := 0) (As := []) X (th_da dtX4_spares 32 rfl) (mX4_think l _ _ _ e11) wcd_X4_think wml_X4_245 wim_X4_think wse_X4_think win_X4_think hd_X4_think ⟨Nat.le_of_ble_eq_true rfl, Nat.le_of_ble_eq_true rfl⟩ (Nat.le_of_ble_eq_true rfl) rfl rfl rfl ?_
      refine V_aload_n (pc := 58) X (th_da dtX4_spares 33 rfl) rfl ?_
      refine V_getR (pc := 59) (j := 2) (t := 2) X (th_da dtX4_spares 34 rfl) wfl_X4_15 iX4 rfl rfl (Nat.le_of_ble_eq_true rfl) rfl ?_
      refine V_iload_n (pc := 62) X (th_da dtX4_spares 35 rfl) rfl ?_
      obtain ⟨u12, h12, e12, hf⟩ := th_bd_some hf
      refine V_callSi (pc := 63) (As := [.int x1]) X (th_da dtX4_spares 36 rfl) (mX4_at l _ _ _ _ e12) wcd_X4_at wml_X4_71 wst_X4_at win_X4_at hd_X4_at ⟨Nat.le_of_ble_eq_true rfl, Nat.le_of_ble_eq_true rfl⟩ (Nat.le_of_ble_eq_true rfl) rfl ?_
      refine V_iconst (pc := 66) (v := 5) X (th_da dtX4_spares 37 rfl) (by decide) ?_
      refine V_iadd (pc := 67) X (th_da dtX4_spares 38 rfl) ?_
      refine V_iload_n (pc := 68) X (th_da dtX4_spares 39 rfl) rfl ?_
      obtain ⟨h13, e13, g13, hf⟩ := th_wr_some hf
      refine V_iast (pc := 69) X (th_da dtX4_spares 40 rfl) rfl g13 e13 ?_
      refine V_aload_n (pc := 70) X (th_da dtX4_spares 41 rfl) rfl ?_
      obtain ⟨u14, h14, e14, hf⟩ := th_bd_some hf
      refine V_callVv (pc := 71) (q := 0) (As := []) X (th_da dtX4_spares 42 rfl) (mX4_layFair l _ _ _ e14) wcd_X4_layFair wml_X4_207 wim_X4_layFair wse_X4_layFair win_X4_layFair hd_X4_layFair ⟨Nat.le_of_ble_eq_true rfl, Nat.le_of_ble_eq_true rfl⟩ (Nat.le_of_ble_eq_true rfl) rfl rfl rfl ?_
      refine V_aload_n (pc := 74) X (th_da dtX4_spares 43 rfl) rfl ?_
      obtain ⟨u15, h15, e15, hf⟩ := th_bd_some hf
      refine V_callVi (pc := 75) (q := 0) (As := []) X (th_da dtX4_spares 44 rfl) (mX4_allRates l _ _ _ e15) wcd_X4_allRates wml_X4_216 wim_X4_allRates wse_X4_allRates win_X4_allRates hd_X4_allRates ⟨Nat.le_of_ble_eq_true rfl, Nat.le_of_ble_eq_true rfl⟩ (Nat.le_of_ble_eq_true rfl) rfl rfl rfl ?_
      refine V_aload_n (pc := 78) X (th_da dtX4_spares 45 rfl) rfl ?_
      refine V_iload_n (pc := 79) X (th_da dtX4_spares 46 rfl) rfl ?_
      obtain ⟨u16, h16, e16, hf⟩ := th_bd_some hf
      refine V_callVi (pc := 80) (q := 0) (As := [.int x1]) X (th_da dtX4_spares 47 rfl) (mX4_fairRate l _ _ _ _ e16) wcd_X4_fairRate wml_X4_199 wim_X4_fairRate wse_X4_fairRate win_X4_fairRate hd_X4_fairRate ⟨Nat.le_of_ble_eq_true rfl, Nat.le_of_ble_eq_true rfl⟩ (Nat.le_of_ble_eq_true rfl) rfl rfl rfl ?_
      refine V_isub (pc := 83) X (th_da dtX4_spares 48 rfl) ?_
      refine V_iload_n (pc := 84) X (th_da dtX4_spares 49 rfl) rfl ?_
      refine V_isub (pc := 85) X (th_da dtX4_spares 50 rfl) ?_
      refine V_istore (pc := 86) (ls2 := [.ref 0, .int x1, .int x2, .int (u9 - u10), .int ((u15 - u16) - (u9 - u10))]) X (th_da dtX4_spares 51 rfl) (Nat.le_of_ble_eq_true rfl) rfl rfl ?_
      refine V_aload_n (pc := 88) X (th_da dtX4_spares 52 rfl) rfl ?_
      obtain ⟨u17, h17, e17, hf⟩ := th_bd_some hf
      refine V_callVv (pc := 89) (q := 0) (As := []) X (th_da dtX4_spares 53 rfl) (mX4_endThought l _ _ _ e17) wcd_X4_endThought wml_X4_248 wim_X4_endThought wse_X4_endThought win_X4_endThought hd_X4_endThought ⟨Nat.le_of_ble_eq_true rfl, Nat.le_of_ble_eq_true rfl⟩ (Nat.le_of_ble_eq_true rfl) rfl rfl rfl ?_
      refine V_iload (pc := 92) X (th_da dtX4_spares 54 rfl) rfl ?_
      exact V_iretF (pc := 94) X (th_da dtX4_spares 55 rfl) hf
end
def fX4_weightFor_c24 : Nat → Int32 → Int32 → Int32 → Int32 → th_H → Option (Int32 × th_H)
  | 0, _, _, _, _, _ => none
  | n + 1, y1, y2, y3, y4, h =>
    if (9 < y4 : Prop) then
      th_bd (fX4_endThought h) fun _u2 h2 =>
      some (y3, h2)
    else
      if (y3 = (-1) : Prop) then
        th_bd (fX4_at y1 h) fun u4 h4 =>
        th_wr h4 2 643 (u4 + 3) y4 fun h5 =>
        th_bd (fX4_layFair h5) fun _u6 h6 =>
        th_bd (fX4_fairRate y1 h6) fun u7 h7 =>
        if (u7 < y2 : Prop) then
          fX4_weightFor_c24 n y1 y2 (-1) (y4 + 1) h7
        else
          fX4_weightFor_c24 n y1 y2 y4 (y4 + 1) h7
      else
        th_bd (fX4_endThought h) fun _u9 h9 =>
        some (y3, h9)
def fX4_weightFor (x1 : Int32) (x2 : Int32) (h : th_H) : Option (Int32 × th_H) :=
  th_st (th_up h 0 0 0) fun h1 =>
  th_bd (fX4_isFlow x1 h1) fun u2 h2 =>
  if (u2 = 0 : Prop) then
    some ((-1), h2)
  else
    th_bd (fX4_think h2) fun _u4 h4 =>
    fX4_weightFor_c24 1000 x1 x2 (-1) 1 h4
def tbX4_weightFor : List (Nat × Instr × Nat) := [(0, .aload_n 0, 1), (1, .iconst 0, 1), (2, .putfield 55, 3), (5, .aload_n 0, 1), (6, .iload_n 1, 1), (7, .invokevirtual 125, 3), (10, .ifCond .ne 5, 3), (13, .iconst (-1), 1), (14, .ireturn, 1), (15, .aload_n 0, 1), (16, .invokevirtual 245, 3), (19, .iconst (-1), 1), (20, .istore_n 3, 1), (21, .iconst 1, 1), (22, .istore 4, 2), (24, .iload 4, 2), (26, .bipush 9, 2), (28, .if_icmp .gt 47, 3), (31, .iload_n 3, 1), (32, .iconst (-1), 1), (33, .if_icmp .ne 42, 3), (36, .aload_n 0, 1), (37, .getfield 15, 3), (40, .iload_n 1, 1), (41, .invokestatic 71, 3), (44, .iconst 3, 1), (45, .iadd, 1), (46, .iload 4, 2), (48, .iastore, 1), (49, .aload_n 0, 1), (50, .invokevirtual 207, 3), (53, .aload_n 0, 1), (54, .iload_n 1, 1), (55, .invokevirtual 199, 3), (58, .iload_n 2, 1), (59, .if_icmp .lt 8, 3), (62, .iload 4, 2), (64, .goto 4, 3), (67, .iconst (-1), 1), (68, .istore_n 3, 1), (69, .iinc 4 1, 3), (72, .goto (-48), 3), (75, .aload_n 0, 1), (76, .invokevirtual 248, 3), (79, .iload_n 3, 1), (80, .ireturn, 1)]
theorem dtX4_weightFor : th_dec cX4_weightFor tbX4_weightFor = true := by decide +kernel
section
variable {p0 : Program} {l : Launch} {e : Env} {s : State} {m : MethodId} {args : Array Value} {below : List Frame} {meth : Method} {c : Code} {D : va_G} {cI cZ : ClassId} {ad : Nat → Nat} {rr : Int32} {hh : th_H}
set_option maxHeartbeats 4000000 in
set_option maxRecDepth 100000 in
theorem tX4_weightFor_c24 (X : th_X p0 s m args meth c D cI cZ ad LM 5 RX4 cX4_weightFor (some .int)) : ∀ (n : Nat) (y1 : Int32) (y2 : Int32) (y3 : Int32) (y4 : Int32) (h : th_H), fX4_weightFor_c24 n y1 y2 y3 y4 h = some (rr, hh) → th_V p0 l e { frames := 5, cells := 0, slots := 0, locals := 115 } s m args below meth c D cI cZ ad LM 5 (some (.int rr)) hh 24 [.ref 0, .int y1, .int y2, .int y3, .int y4] [] h := by
  intro n
  induction n with
  | zero => intro y1 y2 y3 y4 h hf; cases hf
  | succ n ih =>
    intro y1 y2 y3 y4 h hf
    rw [fX4_weightFor_c24] at hf
    refine V_iload (pc := 24) X (th_da dtX4_weightFor 15 rfl) rfl ?_
    refine V_bipush (pc := 26) (v := 9) X (th_da dtX4_weightFor 16 rfl) (by decide) ?_
    refine V_icmp_gt (pc := 28) (tgt := 75) X (th_da dtX4_weightFor 17 rfl) (by decide) (fun c1 => ?_) (fun c1 => ?_)
    · rw [if_pos c1] at hf
      refine V_aload_n (pc := 75) X (th_da dtX4_weightFor 42 rfl) rfl ?_
      obtain ⟨u2, h2, e2, hf⟩ := th_bd_some hf
      refine V_callVv (pc := 76) (q := 0) (As := []) X (th_da dtX4_weightFor 43 rfl) (mX4_endThought l _ _ _ e2) wcd_X4_endThought wml_X4_248 wim_X4_endThought wse_X4_endThought win_X4_endThought hd_X4_endThought ⟨Nat.le_of_ble_eq_true rfl, Nat.le_of_ble_eq_true rfl⟩ (Nat.le_of_ble_eq_true rfl) rfl rfl rfl ?_
      refine V_iload_n (pc := 79) X (th_da dtX4_weightFor 44 rfl) rfl ?_
      exact V_iretF (pc := 80) X (th_da dtX4_weightFor 45 rfl) hf
    · rw [if_neg c1] at hf
      refine V_iload_n (pc := 31) X (th_da dtX4_weightFor 18 rfl) rfl ?_
      refine V_iconst (pc := 32) (v := (-1)) X (th_da dtX4_weightFor 19 rfl) (by decide) ?_
      refine V_icmp_ne (pc := 33) (tgt := 75) X (th_da dtX4_weightFor 20 rfl) (by decide) (fun c3 => ?_) (fun c3 => ?_)
      · rw [if_pos c3] at hf
        refine V_aload_n (pc := 36) X (th_da dtX4_weightFor 21 rfl) rfl ?_
        refine V_getR (pc := 37) (j := 2) (t := 2) X (th_da dtX4_weightFor 22 rfl) wfl_X4_15 iX4 rfl rfl (Nat.le_of_ble_eq_true rfl) rfl ?_
        refine V_iload_n (pc := 40) X (th_da dtX4_weightFor 23 rfl) rfl ?_
        obtain ⟨u4, h4, e4, hf⟩ := th_bd_some hf
        refine V_callSi (pc := 41) (As := [.int y1]) X (th_da dtX4_weightFor 24 rfl) (mX4_at l _ _ _ _ e4) wcd_X4_at wml_X4_71 wst_X4_at win_X4_at hd_X4_at ⟨Nat.le_of_ble_eq_true rfl, Nat.le_of_ble_eq_true rfl⟩ (Nat.le_of_ble_eq_true rfl) rfl ?_
        refine V_iconst (pc := 44) (v := 3) X (th_da dtX4_weightFor 25 rfl) (by decide) ?_
        refine V_iadd (pc := 45) X (th_da dtX4_weightFor 26 rfl) ?_
        refine V_iload (pc := 46) X (th_da dtX4_weightFor 27 rfl) rfl ?_
        obtain ⟨h5, e5, g5, hf⟩ := th_wr_some hf
        refine V_iast (pc := 48) X (th_da dtX4_weightFor 28 rfl) rfl g5 e5 ?_
        refine V_aload_n (pc := 49) X (th_da dtX4_weightFor 29 rfl) rfl ?_
        obtain ⟨u6, h6, e6, hf⟩ := th_bd_some hf
        refine V_callVv (pc := 50) (q := 0) (As := []) X (th_da dtX4_weightFor 30 rfl) (mX4_layFair l _ _ _ e6) wcd_X4_layFair wml_X4_207 wim_X4_layFair wse_X4_layFair win_X4_layFair hd_X4_layFair ⟨Nat.le_of_ble_eq_true rfl, Nat.le_of_ble_eq_true rfl⟩ (Nat.le_of_ble_eq_true rfl) rfl rfl rfl ?_
        refine V_aload_n (pc := 53) X (th_da dtX4_weightFor 31 rfl) rfl ?_
        refine V_iload_n (pc := 54) X (th_da dtX4_weightFor 32 rfl) rfl ?_
        obtain ⟨u7, h7, e7, hf⟩ := th_bd_some hf
        refine V_callVi (pc := 55) (q := 0) (As := [.int y1]) X (th_da dtX4_weightFor 33 rfl) (mX4_fairRate l _ _ _ _ e7) wcd_X4_fairRate wml_X4_199 wim_X4_fairRate wse_X4_fairRate win_X4_fairRate hd_X4_fairRate ⟨Nat.le_of_ble_eq_true rfl, Nat.le_of_ble_eq_true rfl⟩ (Nat.le_of_ble_eq_true rfl) rfl rfl rfl ?_
        refine V_iload_n (pc := 58) X (th_da dtX4_weightFor 34 rfl) rfl ?_
        refine V_icmp_lt (pc := 59) (tgt := 67) X (th_da dtX4_weightFor 35 rfl) (by decide) (fun c8 => ?_) (fun c8 => ?_)
        · rw [if_pos c8] at hf
          refine V_iconst (pc := 67) (v := (-1)) X (th_da dtX4_weightFor 38 rfl) (by decide) ?_
          refine V_istore_n (pc := 68) (ls2 := [.ref 0, .int y1, .int y2, .int (-1), .int y4]) X (th_da dtX4_weightFor 39 rfl) (Nat.le_of_ble_eq_true rfl) rfl rfl ?_
          refine V_iinc (pc := 69) (v := y4 + 1) (ls2 := [.ref 0, .int y1, .int y2, .int (-1), .int (y4 + 1)]) X (th_da dtX4_weightFor 40 rfl) rfl rfl (Nat.le_of_ble_eq_true rfl) rfl rfl ?_
          refine V_goto (pc := 72) (tgt := 24) X (th_da dtX4_weightFor 41 rfl) (by decide) ?_
          exact ih _ _ _ _ _ hf
        · rw [if_neg c8] at hf
          refine V_iload (pc := 62) X (th_da dtX4_weightFor 36 rfl) rfl ?_
          refine V_goto (pc := 64) (tgt := 68) X (th_da dtX4_weightFor 37 rfl) (by decide) ?_
          refine V_istore_n (pc := 68) (ls2 := [.ref 0, .int y1, .int y2, .int y4, .int y4]) X (th_da dtX4_weightFor 39 rfl) (Nat.le_of_ble_eq_true rfl) rfl rfl ?_
          refine V_iinc (pc := 69) (v := y4 + 1) (ls2 := [.ref 0, .int y1, .int y2, .int y4, .int (y4 + 1)]) X (th_da dtX4_weightFor 40 rfl) rfl rfl (Nat.le_of_ble_eq_true rfl) rfl rfl ?_
          refine V_goto (pc := 72) (tgt := 24) X (th_da dtX4_weightFor 41 rfl) (by decide) ?_
          exact ih _ _ _ _ _ hf
      · rw [if_neg c3] at hf
        refine V_aload_n (pc := 75) X (th_da dtX4_weightFor 42 rfl) rfl ?_
        obtain ⟨u9, h9, e9, hf⟩ := th_bd_some hf
        refine V_callVv (pc := 76) (q := 0) (As := []) X (th_da dtX4_weightFor 43 rfl) (mX4_endThought l _ _ _ e9) wcd_X4_endThought wml_X4_248 wim_X4_endThought wse_X4_endThought win_X4_endThought hd_X4_endThought ⟨Nat.le_of_ble_eq_true rfl, Nat.le_of_ble_eq_true rfl⟩ (Nat.le_of_ble_eq_true rfl) rfl rfl rfl ?_
        refine V_iload_n (pc := 79) X (th_da dtX4_weightFor 44 rfl) rfl ?_
        exact V_iretF (pc := 80) X (th_da dtX4_weightFor 45 rfl) hf
set_option maxHeartbeats 4000000 in
set_option maxRecDepth 100000 in
theorem mX4_weightFor (l : Launch) (x1 : Int32) (x2 : Int32) (h : th_H) (rr : Int32) (hh : th_H) (hf : fX4_weightFor x1 x2 h = some (rr, hh)) : th_MI l LM yX4_weightFor cX4_weightFor 5 (some .int) 5 115 [.ref 0, .int x1, .int x2] h (some (.int rr)) hh := by
  refine th_MI_of (ls := [.ref 0, .int x1, .int x2, .null, .null]) RX4 rfl rfl rfl (Nat.le_of_ble_eq_true rfl) ?_
  intro p0 e s m args below meth c D cI cZ ad X
  unfold fX4_weightFor at hf
  refine V_aload_n (pc := 0) X (th_da dtX4_weightFor 0 rfl) rfl ?_
  refine V_iconst (pc := 1) (v := 0) X (th_da dtX4_weightFor 1 rfl) (by decide) ?_
  obtain ⟨h1, e1, hf⟩ := th_st_some hf
  refine V_putI (pc := 2) (j := 0) (ty := .int) X (th_da dtX4_weightFor 2 rfl) wfl_X4_55 iX4 rfl rfl (Nat.le_of_ble_eq_true rfl) rfl tyX4 tyX4_ok nmX4 rfl (tyX4_ok 0 (Nat.le_of_ble_eq_true rfl)) rfl rfl e1 ?_
  refine V_aload_n (pc := 5) X (th_da dtX4_weightFor 3 rfl) rfl ?_
  refine V_iload_n (pc := 6) X (th_da dtX4_weightFor 4 rfl) rfl ?_
  obtain ⟨u2, h2, e2, hf⟩ := th_bd_some hf
  refine V_callVi (pc := 7) (q := 0) (As := [.int x1]) X (th_da dtX4_weightFor 5 rfl) (mX4_isFlow l _ _ _ _ e2) wcd_X4_isFlow wml_X4_125 wim_X4_isFlow wse_X4_isFlow win_X4_isFlow hd_X4_isFlow ⟨Nat.le_of_ble_eq_true rfl, Nat.le_of_ble_eq_true rfl⟩ (Nat.le_of_ble_eq_true rfl) rfl rfl rfl ?_
  refine V_if_ne (pc := 10) (tgt := 15) X (th_da dtX4_weightFor 6 rfl) (by decide) (fun c3 => ?_) (fun c3 => ?_)
  · rw [if_pos c3] at hf
    refine V_iconst (pc := 13) (v := (-1)) X (th_da dtX4_weightFor 7 rfl) (by decide) ?_
    exact V_iretF (pc := 14) X (th_da dtX4_weightFor 8 rfl) hf
  · rw [if_neg c3] at hf
    refine V_aload_n (pc := 15) X (th_da dtX4_weightFor 9 rfl) rfl ?_
    obtain ⟨u4, h4, e4, hf⟩ := th_bd_some hf
    refine V_callVv (pc := 16) (q := 0) (As := []) X (th_da dtX4_weightFor 10 rfl) (mX4_think l _ _ _ e4) wcd_X4_think wml_X4_245 wim_X4_think wse_X4_think win_X4_think hd_X4_think ⟨Nat.le_of_ble_eq_true rfl, Nat.le_of_ble_eq_true rfl⟩ (Nat.le_of_ble_eq_true rfl) rfl rfl rfl ?_
    refine V_iconst (pc := 19) (v := (-1)) X (th_da dtX4_weightFor 11 rfl) (by decide) ?_
    refine V_istore_n (pc := 20) (ls2 := [.ref 0, .int x1, .int x2, .int (-1), .null]) X (th_da dtX4_weightFor 12 rfl) (Nat.le_of_ble_eq_true rfl) rfl rfl ?_
    refine V_iconst (pc := 21) (v := 1) X (th_da dtX4_weightFor 13 rfl) (by decide) ?_
    refine V_istore (pc := 22) (ls2 := [.ref 0, .int x1, .int x2, .int (-1), .int 1]) X (th_da dtX4_weightFor 14 rfl) (Nat.le_of_ble_eq_true rfl) rfl rfl ?_
    exact tX4_weightFor_c24 X _ _ _ _ _ _ hf
end
def fX4_roomFor (x1 : Int32) (h : th_H) : Option (Int32 × th_H) :=
  th_st (th_up h 0 0 0) fun h1 =>
  th_bd (fX4_areLinks x1 h1) fun u2 h2 =>
  if (u2 = 0 : Prop) then
    some ((-1), h2)
  else
    th_bd (fX4_freeNumber h2) fun u4 h4 =>
    if (u4 < 20 : Prop) then
      th_bd (fX4_roomOf x1 h4) fun u6 h6 =>
      some (u6, h6)
    else
      some ((-1), h4)
def tbX4_roomFor : List (Nat × Instr × Nat) := [(0, .aload_n 0, 1), (1, .iconst 0, 1), (2, .putfield 55, 3), (5, .iload_n 1, 1), (6, .invokestatic 98, 3), (9, .ifCond .eq 20, 3), (12, .aload_n 0, 1), (13, .invokevirtual 101, 3), (16, .bipush 20, 2), (18, .if_icmp .ge 11, 3), (21, .aload_n 0, 1), (22, .iload_n 1, 1), (23, .invokevirtual 105, 3), (26, .goto 4, 3), (29, .iconst (-1), 1), (30, .ireturn, 1)]
theorem dtX4_roomFor : th_dec cX4_roomFor tbX4_roomFor = true := by decide +kernel
section
variable {p0 : Program} {l : Launch} {e : Env} {s : State} {m : MethodId} {args : Array Value} {below : List Frame} {meth : Method} {c : Code} {D : va_G} {cI cZ : ClassId} {ad : Nat → Nat} {rr : Int32} {hh : th_H}
set_option maxHeartbeats 4000000 in
set_option maxRecDepth 100000 in
theorem mX4_roomFor (l : Launch) (x1 : Int32) (h : th_H) (rr : Int32) (hh : th_H) (hf : fX4_roomFor x1 h = some (rr, hh)) : th_MI l LM yX4_roomFor cX4_roomFor 2 (some .int) 4 88 [.ref 0, .int x1] h (some (.int rr)) hh := by
  refine th_MI_of (ls := [.ref 0, .int x1]) RX4 rfl rfl rfl (Nat.le_of_ble_eq_true rfl) ?_
  intro p0 e s m args below meth c D cI cZ ad X
  unfold fX4_roomFor at hf
  refine V_aload_n (pc := 0) X (th_da dtX4_roomFor 0 rfl) rfl ?_
  refine V_iconst (pc := 1) (v := 0) X (th_da dtX4_roomFor 1 rfl) (by decide) ?_
  obtain ⟨h1, e1, hf⟩ := th_st_some hf
  refine V_putI (pc := 2) (j := 0) (ty := .int) X (th_da dtX4_roomFor 2 rfl) wfl_X4_55 iX4 rfl rfl (Nat.le_of_ble_eq_true rfl) rfl tyX4 tyX4_ok nmX4 rfl (tyX4_ok 0 (Nat.le_of_ble_eq_true rfl)) rfl rfl e1 ?_
  refine V_iload_n (pc := 5) X (th_da dtX4_roomFor 3 rfl) rfl ?_
  obtain ⟨u2, h2, e2, hf⟩ := th_bd_some hf
  refine V_callSi (pc := 6) (As := [.int x1]) X (th_da dtX4_roomFor 4 rfl) (mX4_areLinks l _ _ _ _ e2) wcd_X4_areLinks wml_X4_98 wst_X4_areLinks win_X4_areLinks hd_X4_areLinks ⟨Nat.le_of_ble_eq_true rfl, Nat.le_of_ble_eq_true rfl⟩ (Nat.le_of_ble_eq_true rfl) rfl ?_
  refine V_if_eq (pc := 9) (tgt := 29) X (th_da dtX4_roomFor 5 rfl) (by decide) (fun c3 => ?_) (fun c3 => ?_)
  · rw [if_pos c3] at hf
    refine V_iconst (pc := 29) (v := (-1)) X (th_da dtX4_roomFor 14 rfl) (by decide) ?_
    exact V_iretF (pc := 30) X (th_da dtX4_roomFor 15 rfl) hf
  · rw [if_neg c3] at hf
    refine V_aload_n (pc := 12) X (th_da dtX4_roomFor 6 rfl) rfl ?_
    obtain ⟨u4, h4, e4, hf⟩ := th_bd_some hf
    refine V_callVi (pc := 13) (q := 0) (As := []) X (th_da dtX4_roomFor 7 rfl) (mX4_freeNumber l _ _ _ e4) wcd_X4_freeNumber wml_X4_101 wim_X4_freeNumber wse_X4_freeNumber win_X4_freeNumber hd_X4_freeNumber ⟨Nat.le_of_ble_eq_true rfl, Nat.le_of_ble_eq_true rfl⟩ (Nat.le_of_ble_eq_true rfl) rfl rfl rfl ?_
    refine V_bipush (pc := 16) (v := 20) X (th_da dtX4_roomFor 8 rfl) (by decide) ?_
    refine V_icmp_ge (pc := 18) (tgt := 29) X (th_da dtX4_roomFor 9 rfl) (by decide) (fun c5 => ?_) (fun c5 => ?_)
    · rw [if_pos c5] at hf
      refine V_aload_n (pc := 21) X (th_da dtX4_roomFor 10 rfl) rfl ?_
      refine V_iload_n (pc := 22) X (th_da dtX4_roomFor 11 rfl) rfl ?_
      obtain ⟨u6, h6, e6, hf⟩ := th_bd_some hf
      refine V_callVi (pc := 23) (q := 0) (As := [.int x1]) X (th_da dtX4_roomFor 12 rfl) (mX4_roomOf l _ _ _ _ e6) wcd_X4_roomOf wml_X4_105 wim_X4_roomOf wse_X4_roomOf win_X4_roomOf hd_X4_roomOf ⟨Nat.le_of_ble_eq_true rfl, Nat.le_of_ble_eq_true rfl⟩ (Nat.le_of_ble_eq_true rfl) rfl rfl rfl ?_
      refine V_goto (pc := 26) (tgt := 30) X (th_da dtX4_roomFor 13 rfl) (by decide) ?_
      exact V_iretF (pc := 30) X (th_da dtX4_roomFor 15 rfl) hf
    · rw [if_neg c5] at hf
      refine V_iconst (pc := 29) (v := (-1)) X (th_da dtX4_roomFor 14 rfl) (by decide) ?_
      exact V_iretF (pc := 30) X (th_da dtX4_roomFor 15 rfl) hf
end
def fX4_takeLevels_c6 : Nat → Int32 → th_H → Option (Unit × th_H)
  | 0, _, _ => none
  | n + 1, y1, h =>
    if (y1 < 20 : Prop) then
      th_rd h 7 20 y1 fun v2 =>
      th_wr h 14 20 y1 v2 fun h3 =>
      fX4_takeLevels_c6 n (y1 + 1) h3
    else
      some ((), h)
def fX4_takeLevels (h : th_H) : Option (Unit × th_H) :=
  th_bd (fX4_layFair h) fun _u1 h1 =>
  fX4_takeLevels_c6 1000 0 h1
def tbX4_takeLevels : List (Nat × Instr × Nat) := [(0, .aload_n 0, 1), (1, .invokevirtual 207, 3), (4, .iconst 0, 1), (5, .istore_n 1, 1), (6, .iload_n 1, 1), (7, .bipush 20, 2), (9, .if_icmp .ge 21, 3), (12, .aload_n 0, 1), (13, .getfield 52, 3), (16, .iload_n 1, 1), (17, .aload_n 0, 1), (18, .getfield 31, 3), (21, .iload_n 1, 1), (22, .iaload, 1), (23, .iastore, 1), (24, .iinc 1 1, 3), (27, .goto (-21), 3), (30, .return_, 1)]
theorem dtX4_takeLevels : th_dec cX4_takeLevels tbX4_takeLevels = true := by decide +kernel
section
variable {p0 : Program} {l : Launch} {e : Env} {s : State} {m : MethodId} {args : Array Value} {below : List Frame} {meth : Method} {c : Code} {D : va_G} {cI cZ : ClassId} {ad : Nat → Nat} {rr : Unit} {hh : th_H}
set_option maxHeartbeats 4000000 in
set_option maxRecDepth 100000 in
theorem tX4_takeLevels_c6 (X : th_X p0 s m args meth c D cI cZ ad LM 2 RX4 cX4_takeLevels none) : ∀ (n : Nat) (y1 : Int32) (h : th_H), fX4_takeLevels_c6 n y1 h = some (rr, hh) → th_V p0 l e { frames := 5, cells := 0, slots := 0, locals := 115 } s m args below meth c D cI cZ ad LM 2 none hh 6 [.ref 0, .int y1] [] h := by
  intro n
  induction n with
  | zero => intro y1 h hf; cases hf
  | succ n ih =>
    intro y1 h hf
    rw [fX4_takeLevels_c6] at hf
    refine V_iload_n (pc := 6) X (th_da dtX4_takeLevels 4 rfl) rfl ?_
    refine V_bipush (pc := 7) (v := 20) X (th_da dtX4_takeLevels 5 rfl) (by decide) ?_
    refine V_icmp_ge (pc := 9) (tgt := 30) X (th_da dtX4_takeLevels 6 rfl) (by decide) (fun c1 => ?_) (fun c1 => ?_)
    · rw [if_pos c1] at hf
      refine V_aload_n (pc := 12) X (th_da dtX4_takeLevels 7 rfl) rfl ?_
      refine V_getR (pc := 13) (j := 16) (t := 14) X (th_da dtX4_takeLevels 8 rfl) wfl_X4_52 iX4 rfl rfl (Nat.le_of_ble_eq_true rfl) rfl ?_
      refine V_iload_n (pc := 16) X (th_da dtX4_takeLevels 9 rfl) rfl ?_
      refine V_aload_n (pc := 17) X (th_da dtX4_takeLevels 10 rfl) rfl ?_
      refine V_getR (pc := 18) (j := 7) (t := 7) X (th_da dtX4_takeLevels 11 rfl) wfl_X4_31 iX4 rfl rfl (Nat.le_of_ble_eq_true rfl) rfl ?_
      refine V_iload_n (pc := 21) X (th_da dtX4_takeLevels 12 rfl) rfl ?_
      obtain ⟨v2, e2, g2, hf⟩ := th_rd_some hf
      refine V_iald (pc := 22) X (th_da dtX4_takeLevels 13 rfl) rfl g2 e2 ?_
      obtain ⟨h3, e3, g3, hf⟩ := th_wr_some hf
      refine V_iast (pc := 23) X (th_da dtX4_takeLevels 14 rfl) rfl g3 e3 ?_
      refine V_iinc (pc := 24) (v := y1 + 1) (ls2 := [.ref 0, .int (y1 + 1)]) X (th_da dtX4_takeLevels 15 rfl) rfl rfl (Nat.le_of_ble_eq_true rfl) rfl rfl ?_
      refine V_goto (pc := 27) (tgt := 6) X (th_da dtX4_takeLevels 16 rfl) (by decide) ?_
      exact ih _ _ hf
    · rw [if_neg c1] at hf
      exact V_vretF (pc := 30) X (th_da dtX4_takeLevels 17 rfl) hf
set_option maxHeartbeats 4000000 in
set_option maxRecDepth 100000 in
theorem mX4_takeLevels (l : Launch) (h : th_H) (rr : Unit) (hh : th_H) (hf : fX4_takeLevels h = some (rr, hh)) : th_MI l LM yX4_takeLevels cX4_takeLevels 2 none 5 115 [.ref 0] h none hh := by
  refine th_MI_of (ls := [.ref 0, .null]) RX4 rfl rfl rfl (Nat.le_of_ble_eq_true rfl) ?_
  intro p0 e s m args below meth c D cI cZ ad X
  unfold fX4_takeLevels at hf
  refine V_aload_n (pc := 0) X (th_da dtX4_takeLevels 0 rfl) rfl ?_
  obtain ⟨u1, h1, e1, hf⟩ := th_bd_some hf
  refine V_callVv (pc := 1) (q := 0) (As := []) X (th_da dtX4_takeLevels 1 rfl) (mX4_layFair l _ _ _ e1) wcd_X4_layFair wml_X4_207 wim_X4_layFair wse_X4_layFair win_X4_layFair hd_X4_layFair ⟨Nat.le_of_ble_eq_true rfl, Nat.le_of_ble_eq_true rfl⟩ (Nat.le_of_ble_eq_true rfl) rfl rfl rfl ?_
  refine V_iconst (pc := 4) (v := 0) X (th_da dtX4_takeLevels 2 rfl) (by decide) ?_
  refine V_istore_n (pc := 5) (ls2 := [.ref 0, .int 0]) X (th_da dtX4_takeLevels 3 rfl) (Nat.le_of_ble_eq_true rfl) rfl rfl ?_
  exact tX4_takeLevels_c6 X _ _ _ hf
end
def fX4_othersBy_c37 : Nat → Int32 → Int32 → th_H → Option (Int32 × th_H)
  | 0, _, _, _ => none
  | n + 1, y4, y5, h =>
    if (y5 < 20 : Prop) then
      th_bd (fX4_isFlow y5 h) fun u2 h2 =>
      if (u2 = 0 : Prop) then
        fX4_othersBy_c37 n (y4 ||| 0) (y5 + 1) h2
      else
        th_rd h2 7 20 y5 fun v4 =>
        th_rd h2 14 20 y5 fun v5 =>
        if (v4 = v5 : Prop) then
          fX4_othersBy_c37 n (y4 ||| 0) (y5 + 1) h2
        else
          fX4_othersBy_c37 n (y4 ||| ((1 : Int32) <<< (y5 &&& 31))) (y5 + 1) h2
    else
      some (y4, h)
def fX4_othersBy (x1 : Int32) (x2 : Int32) (h : th_H) : Option (Int32 × th_H) :=
  th_rd h 2 643 ((3 : Int32) + x1) fun v1 =>
  th_wr h 2 643 ((3 : Int32) + x1) x2 fun h2 =>
  th_bd (fX4_layFair h2) fun _u3 h3 =>
  th_wr h3 2 643 ((3 : Int32) + x1) v1 fun h4 =>
  fX4_othersBy_c37 1000 0 0 h4
def tbX4_othersBy : List (Nat × Instr × Nat) := [(0, .aload_n 0, 1), (1, .getfield 15, 3), (4, .iconst 3, 1), (5, .iload_n 1, 1), (6, .iadd, 1), (7, .iaload, 1), (8, .istore_n 3, 1), (9, .aload_n 0, 1), (10, .getfield 15, 3), (13, .iconst 3, 1), (14, .iload_n 1, 1), (15, .iadd, 1), (16, .iload_n 2, 1), (17, .iastore, 1), (18, .aload_n 0, 1), (19, .invokevirtual 207, 3), (22, .aload_n 0, 1), (23, .getfield 15, 3), (26, .iconst 3, 1), (27, .iload_n 1, 1), (28, .iadd, 1), (29, .iload_n 3, 1), (30, .iastore, 1), (31, .iconst 0, 1), (32, .istore 4, 2), (34, .iconst 0, 1), (35, .istore 5, 2), (37, .iload 5, 2), (39, .bipush 20, 2), (41, .if_icmp .ge 48, 3), (44, .iload 4, 2), (46, .aload_n 0, 1), (47, .iload 5, 2), (49, .invokevirtual 125, 3), (52, .ifCond .eq 27, 3), (55, .aload_n 0, 1), (56, .getfield 31, 3), (59, .iload 5, 2), (61, .iaload, 1), (62, .aload_n 0, 1), (63, .getfield 52, 3), (66, .iload 5, 2), (68, .iaload, 1), (69, .if_icmp .eq 10, 3), (72, .iconst 1, 1), (73, .iload 5, 2), (75, .ishl, 1), (76, .goto 4, 3), (79, .iconst 0, 1), (80, .ior, 1), (81, .istore 4, 2), (83, .iinc 5 1, 3), (86, .goto (-49), 3), (89, .iload 4, 2), (91, .ireturn, 1)]
theorem dtX4_othersBy : th_dec cX4_othersBy tbX4_othersBy = true := by decide +kernel
section
variable {p0 : Program} {l : Launch} {e : Env} {s : State} {m : MethodId} {args : Array Value} {below : List Frame} {meth : Method} {c : Code} {D : va_G} {cI cZ : ClassId} {ad : Nat → Nat} {rr : Int32} {hh : th_H}
set_option maxHeartbeats 4000000 in
set_option maxRecDepth 100000 in
theorem tX4_othersBy_c37 (X : th_X p0 s m args meth c D cI cZ ad LM 6 RX4 cX4_othersBy (some .int)) : ∀ (n : Nat) (y4 : Int32) (y5 : Int32) (h : th_H), fX4_othersBy_c37 n y4 y5 h = some (rr, hh) → th_V p0 l e { frames := 5, cells := 0, slots := 0, locals := 115 } s m args below meth c D cI cZ ad LM 6 (some (.int rr)) hh 37 [.ref 0, .null, .null, .null, .int y4, .int y5] [] h := by
  intro n
  induction n with
  | zero => intro y4 y5 h hf; cases hf
  | succ n ih =>
    intro y4 y5 h hf
    rw [fX4_othersBy_c37] at hf
    refine V_iload (pc := 37) X (th_da dtX4_othersBy 27 rfl) rfl ?_
    refine V_bipush (pc := 39) (v := 20) X (th_da dtX4_othersBy 28 rfl) (by decide) ?_
    refine V_icmp_ge (pc := 41) (tgt := 89) X (th_da dtX4_othersBy 29 rfl) (by decide) (fun c1 => ?_) (fun c1 => ?_)
    · rw [if_pos c1] at hf
      refine V_iload (pc := 44) X (th_da dtX4_othersBy 30 rfl) rfl ?_
      refine V_aload_n (pc := 46) X (th_da dtX4_othersBy 31 rfl) rfl ?_
      refine V_iload (pc := 47) X (th_da dtX4_othersBy 32 rfl) rfl ?_
      obtain ⟨u2, h2, e2, hf⟩ := th_bd_some hf
      refine V_callVi (pc := 49) (q := 0) (As := [.int y5]) X (th_da dtX4_othersBy 33 rfl) (mX4_isFlow l _ _ _ _ e2) wcd_X4_isFlow wml_X4_125 wim_X4_isFlow wse_X4_isFlow win_X4_isFlow hd_X4_isFlow ⟨Nat.le_of_ble_eq_true rfl, Nat.le_of_ble_eq_true rfl⟩ (Nat.le_of_ble_eq_true rfl) rfl rfl rfl ?_
      refine V_if_eq (pc := 52) (tgt := 79) X (th_da dtX4_othersBy 34 rfl) (by decide) (fun c3 => ?_) (fun c3 => ?_)
      · rw [if_pos c3] at hf
        refine V_iconst (pc := 79) (v := 0) X (th_da dtX4_othersBy 48 rfl) (by decide) ?_
        refine V_ior (pc := 80) X (th_da dtX4_othersBy 49 rfl) ?_
        refine V_istore (pc := 81) (ls2 := [.ref 0, .null, .null, .null, .int (y4 ||| 0), .int y5]) X (th_da dtX4_othersBy 50 rfl) (Nat.le_of_ble_eq_true rfl) rfl rfl ?_
        refine V_iinc (pc := 83) (v := y5 + 1) (ls2 := [.ref 0, .null, .null, .null, .int (y4 ||| 0), .int (y5 + 1)]) X (th_da dtX4_othersBy 51 rfl) rfl rfl (Nat.le_of_ble_eq_true rfl) rfl rfl ?_
        refine V_goto (pc := 86) (tgt := 37) X (th_da dtX4_othersBy 52 rfl) (by decide) ?_
        exact ih _ _ _ hf
      · rw [if_neg c3] at hf
        refine V_aload_n (pc := 55) X (th_da dtX4_othersBy 35 rfl) rfl ?_
        refine V_getR (pc := 56) (j := 7) (t := 7) X (th_da dtX4_othersBy 36 rfl) wfl_X4_31 iX4 rfl rfl (Nat.le_of_ble_eq_true rfl) rfl ?_
        refine V_iload (pc := 59) X (th_da dtX4_othersBy 37 rfl) rfl ?_
        obtain ⟨v4, e4, g4, hf⟩ := th_rd_some hf
        refine V_iald (pc := 61) X (th_da dtX4_othersBy 38 rfl) rfl g4 e4 ?_
        refine V_aload_n (pc := 62) X (th_da dtX4_othersBy 39 rfl) rfl ?_
        refine V_getR (pc := 63) (j := 16) (t := 14) X (th_da dtX4_othersBy 40 rfl) wfl_X4_52 iX4 rfl rfl (Nat.le_of_ble_eq_true rfl) rfl ?_
        refine V_iload (pc := 66) X (th_da dtX4_othersBy 41 rfl) rfl ?_
        obtain ⟨v5, e5, g5, hf⟩ := th_rd_some hf
        refine V_iald (pc := 68) X (th_da dtX4_othersBy 42 rfl) rfl g5 e5 ?_
        refine V_icmp_eq (pc := 69) (tgt := 79) X (th_da dtX4_othersBy 43 rfl) (by decide) (fun c6 => ?_) (fun c6 => ?_)
        · rw [if_pos c6] at hf
          refine V_iconst (pc := 79) (v := 0) X (th_da dtX4_othersBy 48 rfl) (by decide) ?_
          refine V_ior (pc := 80) X (th_da dtX4_othersBy 49 rfl) ?_
          refine V_istore (pc := 81) (ls2 := [.ref 0, .null, .null, .null, .int (y4 ||| 0), .int y5]) X (th_da dtX4_othersBy 50 rfl) (Nat.le_of_ble_eq_true rfl) rfl rfl ?_
          refine V_iinc (pc := 83) (v := y5 + 1) (ls2 := [.ref 0, .null, .null, .null, .int (y4 ||| 0), .int (y5 + 1)]) X (th_da dtX4_othersBy 51 rfl) rfl rfl (Nat.le_of_ble_eq_true rfl) rfl rfl ?_
          refine V_goto (pc := 86) (tgt := 37) X (th_da dtX4_othersBy 52 rfl) (by decide) ?_
          exact ih _ _ _ hf
        · rw [if_neg c6] at hf
          refine V_iconst (pc := 72) (v := 1) X (th_da dtX4_othersBy 44 rfl) (by decide) ?_
          refine V_iload (pc := 73) X (th_da dtX4_othersBy 45 rfl) rfl ?_
          refine V_ishl (pc := 75) X (th_da dtX4_othersBy 46 rfl) ?_
          refine V_goto (pc := 76) (tgt := 80) X (th_da dtX4_othersBy 47 rfl) (by decide) ?_
          refine V_ior (pc := 80) X (th_da dtX4_othersBy 49 rfl) ?_
          refine V_istore (pc := 81) (ls2 := [.ref 0, .null, .null, .null, .int (y4 ||| ((1 : Int32) <<< (y5 &&& 31))), .int y5]) X (th_da dtX4_othersBy 50 rfl) (Nat.le_of_ble_eq_true rfl) rfl rfl ?_
          refine V_iinc (pc := 83) (v := y5 + 1) (ls2 := [.ref 0, .null, .null, .null, .int (y4 ||| ((1 : Int32) <<< (y5 &&& 31))), .int (y5 + 1)]) X (th_da dtX4_othersBy 51 rfl) rfl rfl (Nat.le_of_ble_eq_true rfl) rfl rfl ?_
          refine V_goto (pc := 86) (tgt := 37) X (th_da dtX4_othersBy 52 rfl) (by decide) ?_
          exact ih _ _ _ hf
    · rw [if_neg c1] at hf
      refine V_iload (pc := 89) X (th_da dtX4_othersBy 53 rfl) rfl ?_
      exact V_iretF (pc := 91) X (th_da dtX4_othersBy 54 rfl) hf
set_option maxHeartbeats 4000000 in
set_option maxRecDepth 100000 in
theorem mX4_othersBy (l : Launch) (x1 : Int32) (x2 : Int32) (h : th_H) (rr : Int32) (hh : th_H) (hf : fX4_othersBy x1 x2 h = some (rr, hh)) : th_MI l LM yX4_othersBy cX4_othersBy 6 (some .int) 5 115 [.ref 0, .int x1, .int x2] h (some (.int rr)) hh := by
  refine th_MI_of (ls := [.ref 0, .int x1, .int x2, .null, .null, .null]) RX4 rfl rfl rfl (Nat.le_of_ble_eq_true rfl) ?_
  intro p0 e s m args below meth c D cI cZ ad X
  unfold fX4_othersBy at hf
  refine V_aload_n (pc := 0) X (th_da dtX4_othersBy 0 rfl) rfl ?_
  refine V_getR (pc := 1) (j := 2) (t := 2) X (th_da dtX4_othersBy 1 rfl) wfl_X4_15 iX4 rfl rfl (Nat.le_of_ble_eq_true rfl) rfl ?_
  refine V_iconst (pc := 4) (v := 3) X (th_da dtX4_othersBy 2 rfl) (by decide) ?_
  refine V_iload_n (pc := 5) X (th_da dtX4_othersBy 3 rfl) rfl ?_
  refine V_iadd (pc := 6) X (th_da dtX4_othersBy 4 rfl) ?_
  obtain ⟨v1, e1, g1, hf⟩ := th_rd_some hf
  refine V_iald (pc := 7) X (th_da dtX4_othersBy 5 rfl) rfl g1 e1 ?_
  refine V_istore_n (pc := 8) (ls2 := [.ref 0, .int x1, .int x2, .int v1, .null, .null]) X (th_da dtX4_othersBy 6 rfl) (Nat.le_of_ble_eq_true rfl) rfl rfl ?_
  refine V_aload_n (pc := 9) X (th_da dtX4_othersBy 7 rfl) rfl ?_
  refine V_getR (pc := 10) (j := 2) (t := 2) X (th_da dtX4_othersBy 8 rfl) wfl_X4_15 iX4 rfl rfl (Nat.le_of_ble_eq_true rfl) rfl ?_
  refine V_iconst (pc := 13) (v := 3) X (th_da dtX4_othersBy 9 rfl) (by decide) ?_
  refine V_iload_n (pc := 14) X (th_da dtX4_othersBy 10 rfl) rfl ?_
  refine V_iadd (pc := 15) X (th_da dtX4_othersBy 11 rfl) ?_
  refine V_iload_n (pc := 16) X (th_da dtX4_othersBy 12 rfl) rfl ?_
  obtain ⟨h2, e2, g2, hf⟩ := th_wr_some hf
  refine V_iast (pc := 17) X (th_da dtX4_othersBy 13 rfl) rfl g2 e2 ?_
  refine V_aload_n (pc := 18) X (th_da dtX4_othersBy 14 rfl) rfl ?_
  obtain ⟨u3, h3, e3, hf⟩ := th_bd_some hf
  refine V_callVv (pc := 19) (q := 0) (As := []) X (th_da dtX4_othersBy 15 rfl) (mX4_layFair l _ _ _ e3) wcd_X4_layFair wml_X4_207 wim_X4_layFair wse_X4_layFair win_X4_layFair hd_X4_layFair ⟨Nat.le_of_ble_eq_true rfl, Nat.le_of_ble_eq_true rfl⟩ (Nat.le_of_ble_eq_true rfl) rfl rfl rfl ?_
  refine V_aload_n (pc := 22) X (th_da dtX4_othersBy 16 rfl) rfl ?_
  refine V_getR (pc := 23) (j := 2) (t := 2) X (th_da dtX4_othersBy 17 rfl) wfl_X4_15 iX4 rfl rfl (Nat.le_of_ble_eq_true rfl) rfl ?_
  refine V_iconst (pc := 26) (v := 3) X (th_da dtX4_othersBy 18 rfl) (by decide) ?_
  refine V_iload_n (pc := 27) X (th_da dtX4_othersBy 19 rfl) rfl ?_
  refine V_iadd (pc := 28) X (th_da dtX4_othersBy 20 rfl) ?_
  refine V_iload_n (pc := 29) X (th_da dtX4_othersBy 21 rfl) rfl ?_
  obtain ⟨h4, e4, g4, hf⟩ := th_wr_some hf
  refine V_iast (pc := 30) X (th_da dtX4_othersBy 22 rfl) rfl g4 e4 ?_
  refine V_iconst (pc := 31) (v := 0) X (th_da dtX4_othersBy 23 rfl) (by decide) ?_
  refine V_istore (pc := 32) (ls2 := [.ref 0, .int x1, .int x2, .int v1, .int 0, .null]) X (th_da dtX4_othersBy 24 rfl) (Nat.le_of_ble_eq_true rfl) rfl rfl ?_
  refine V_iconst (pc := 34) (v := 0) X (th_da dtX4_othersBy 25 rfl) (by decide) ?_
  refine V_istore (pc := 35) (ls2 := [.ref 0, .int x1, .int x2, .int v1, .int 0, .int 0]) X (th_da dtX4_othersBy 26 rfl) (Nat.le_of_ble_eq_true rfl) rfl rfl ?_
  refine V_mask [true, false, false, false, true, true] (ls2 := [.ref 0, .null, .null, .null, .int 0, .int 0]) rfl ?_
  exact tX4_othersBy_c37 X _ _ _ _ hf
end
def fX4_touched (x1 : Int32) (h : th_H) : Option (Int32 × th_H) :=
  th_st (th_up h 0 0 0) fun h1 =>
  th_bd (fX4_isLink x1 h1) fun u2 h2 =>
  if (u2 = 0 : Prop) then
    some ((-1), h2)
  else
    th_rd h2 2 643 ((3 : Int32) + x1) fun v4 =>
    th_bd (fX4_bound x1 h2) fun u5 h5 =>
    if (v4 = u5 : Prop) then
      some ((-1), h5)
    else
      th_bd (fX4_takeLevels h5) fun _u7 h7 =>
      th_rd h7 2 643 ((3 : Int32) + x1) fun v8 =>
      th_bd (fX4_othersBy x1 (v8 - 1) h7) fun u9 h9 =>
      some (u9, h9)
def tbX4_touched : List (Nat × Instr × Nat) := [(0, .aload_n 0, 1), (1, .iconst 0, 1), (2, .putfield 55, 3), (5, .iload_n 1, 1), (6, .invokestatic 82, 3), (9, .ifCond .eq 19, 3), (12, .aload_n 0, 1), (13, .getfield 15, 3), (16, .iconst 3, 1), (17, .iload_n 1, 1), (18, .iadd, 1), (19, .iaload, 1), (20, .aload_n 0, 1), (21, .iload_n 1, 1), (22, .invokevirtual 79, 3), (25, .if_icmp .ne 5, 3), (28, .iconst (-1), 1), (29, .ireturn, 1), (30, .aload_n 0, 1), (31, .invokevirtual 254, 3), (34, .aload_n 0, 1), (35, .iload_n 1, 1), (36, .aload_n 0, 1), (37, .getfield 15, 3), (40, .iconst 3, 1), (41, .iload_n 1, 1), (42, .iadd, 1), (43, .iaload, 1), (44, .iconst 1, 1), (45, .isub, 1), (46, .invokevirtual 257, 3), (49, .ireturn, 1)]
theorem dtX4_touched : th_dec cX4_touched tbX4_touched = true := by decide +kernel
section
variable {p0 : Program} {l : Launch} {e : Env} {s : State} {m : MethodId} {args : Array Value} {below : List Frame} {meth : Method} {c : Code} {D : va_G} {cI cZ : ClassId} {ad : Nat → Nat} {rr : Int32} {hh : th_H}
set_option maxHeartbeats 4000000 in
set_option maxRecDepth 100000 in
theorem mX4_touched (l : Launch) (x1 : Int32) (h : th_H) (rr : Int32) (hh : th_H) (hf : fX4_touched x1 h = some (rr, hh)) : th_MI l LM yX4_touched cX4_touched 2 (some .int) 6 140 [.ref 0, .int x1] h (some (.int rr)) hh := by
  refine th_MI_of (ls := [.ref 0, .int x1]) RX4 rfl rfl rfl (Nat.le_of_ble_eq_true rfl) ?_
  intro p0 e s m args below meth c D cI cZ ad X
  unfold fX4_touched at hf
  refine V_aload_n (pc := 0) X (th_da dtX4_touched 0 rfl) rfl ?_
  refine V_iconst (pc := 1) (v := 0) X (th_da dtX4_touched 1 rfl) (by decide) ?_
  obtain ⟨h1, e1, hf⟩ := th_st_some hf
  refine V_putI (pc := 2) (j := 0) (ty := .int) X (th_da dtX4_touched 2 rfl) wfl_X4_55 iX4 rfl rfl (Nat.le_of_ble_eq_true rfl) rfl tyX4 tyX4_ok nmX4 rfl (tyX4_ok 0 (Nat.le_of_ble_eq_true rfl)) rfl rfl e1 ?_
  refine V_iload_n (pc := 5) X (th_da dtX4_touched 3 rfl) rfl ?_
  obtain ⟨u2, h2, e2, hf⟩ := th_bd_some hf
  refine V_callSi (pc := 6) (As := [.int x1]) X (th_da dtX4_touched 4 rfl) (mX4_isLink l _ _ _ _ e2) wcd_X4_isLink wml_X4_82 wst_X4_isLink win_X4_isLink hd_X4_isLink ⟨Nat.le_of_ble_eq_true rfl, Nat.le_of_ble_eq_true rfl⟩ (Nat.le_of_ble_eq_true rfl) rfl ?_
  refine V_if_eq (pc := 9) (tgt := 28) X (th_da dtX4_touched 5 rfl) (by decide) (fun c3 => ?_) (fun c3 => ?_)
  · rw [if_pos c3] at hf
    refine V_iconst (pc := 28) (v := (-1)) X (th_da dtX4_touched 16 rfl) (by decide) ?_
    exact V_iretF (pc := 29) X (th_da dtX4_touched 17 rfl) hf
  · rw [if_neg c3] at hf
    refine V_aload_n (pc := 12) X (th_da dtX4_touched 6 rfl) rfl ?_
    refine V_getR (pc := 13) (j := 2) (t := 2) X (th_da dtX4_touched 7 rfl) wfl_X4_15 iX4 rfl rfl (Nat.le_of_ble_eq_true rfl) rfl ?_
    refine V_iconst (pc := 16) (v := 3) X (th_da dtX4_touched 8 rfl) (by decide) ?_
    refine V_iload_n (pc := 17) X (th_da dtX4_touched 9 rfl) rfl ?_
    refine V_iadd (pc := 18) X (th_da dtX4_touched 10 rfl) ?_
    obtain ⟨v4, e4, g4, hf⟩ := th_rd_some hf
    refine V_iald (pc := 19) X (th_da dtX4_touched 11 rfl) rfl g4 e4 ?_
    refine V_aload_n (pc := 20) X (th_da dtX4_touched 12 rfl) rfl ?_
    refine V_iload_n (pc := 21) X (th_da dtX4_touched 13 rfl) rfl ?_
    obtain ⟨u5, h5, e5, hf⟩ := th_bd_some hf
    refine V_callVi (pc := 22) (q := 0) (As := [.int x1]) X (th_da dtX4_touched 14 rfl) (mX4_bound l _ _ _ _ e5) wcd_X4_bound wml_X4_79 wim_X4_bound wse_X4_bound win_X4_bound hd_X4_bound ⟨Nat.le_of_ble_eq_true rfl, Nat.le_of_ble_eq_true rfl⟩ (Nat.le_of_ble_eq_true rfl) rfl rfl rfl ?_
    refine V_icmp_ne (pc := 25) (tgt := 30) X (th_da dtX4_touched 15 rfl) (by decide) (fun c6 => ?_) (fun c6 => ?_)
    · rw [if_pos c6] at hf
      refine V_iconst (pc := 28) (v := (-1)) X (th_da dtX4_touched 16 rfl) (by decide) ?_
      exact V_iretF (pc := 29) X (th_da dtX4_touched 17 rfl) hf
    · rw [if_neg c6] at hf
      refine V_aload_n (pc := 30) X (th_da dtX4_touched 18 rfl) rfl ?_
      obtain ⟨u7, h7, e7, hf⟩ := th_bd_some hf
      refine V_callVv (pc := 31) (q := 0) (As := []) X (th_da dtX4_touched 19 rfl) (mX4_takeLevels l _ _ _ e7) wcd_X4_takeLevels wml_X4_254 wim_X4_takeLevels wse_X4_takeLevels win_X4_takeLevels hd_X4_takeLevels ⟨Nat.le_of_ble_eq_true rfl, Nat.le_of_ble_eq_true rfl⟩ (Nat.le_of_ble_eq_true rfl) rfl rfl rfl ?_
      refine V_aload_n (pc := 34) X (th_da dtX4_touched 20 rfl) rfl ?_
      refine V_iload_n (pc := 35) X (th_da dtX4_touched 21 rfl) rfl ?_
      refine V_aload_n (pc := 36) X (th_da dtX4_touched 22 rfl) rfl ?_
      refine V_getR (pc := 37) (j := 2) (t := 2) X (th_da dtX4_touched 23 rfl) wfl_X4_15 iX4 rfl rfl (Nat.le_of_ble_eq_true rfl) rfl ?_
      refine V_iconst (pc := 40) (v := 3) X (th_da dtX4_touched 24 rfl) (by decide) ?_
      refine V_iload_n (pc := 41) X (th_da dtX4_touched 25 rfl) rfl ?_
      refine V_iadd (pc := 42) X (th_da dtX4_touched 26 rfl) ?_
      obtain ⟨v8, e8, g8, hf⟩ := th_rd_some hf
      refine V_iald (pc := 43) X (th_da dtX4_touched 27 rfl) rfl g8 e8 ?_
      refine V_iconst (pc := 44) (v := 1) X (th_da dtX4_touched 28 rfl) (by decide) ?_
      refine V_isub (pc := 45) X (th_da dtX4_touched 29 rfl) ?_
      obtain ⟨u9, h9, e9, hf⟩ := th_bd_some hf
      refine V_callVi (pc := 46) (q := 0) (As := [.int x1, .int (v8 - 1)]) X (th_da dtX4_touched 30 rfl) (mX4_othersBy l _ _ _ _ _ e9) wcd_X4_othersBy wml_X4_257 wim_X4_othersBy wse_X4_othersBy win_X4_othersBy hd_X4_othersBy ⟨Nat.le_of_ble_eq_true rfl, Nat.le_of_ble_eq_true rfl⟩ (Nat.le_of_ble_eq_true rfl) rfl rfl rfl ?_
      exact V_iretF (pc := 49) X (th_da dtX4_touched 31 rfl) hf
end
def fX4_without (x1 : Int32) (x2 : Int32) (h : th_H) : Option (Int32 × th_H) :=
  th_st (th_up h 0 0 0) fun h1 =>
  th_bd (fX4_isFlow x1 h1) fun u2 h2 =>
  if (u2 = 0 : Prop) then
    some ((-2147483648), h2)
  else
    th_bd (fX4_isFlow x2 h2) fun u4 h4 =>
    if (u4 = 0 : Prop) then
      some ((-2147483648), h4)
    else
      if (x1 = x2 : Prop) then
        some ((-2147483648), h4)
      else
        th_bd (fX4_layFair h4) fun _u7 h7 =>
        th_bd (fX4_fairRate x2 h7) fun u8 h8 =>
        th_bd (fX4_at x1 h8) fun u9 h9 =>
        th_wr h9 2 643 u9 0 fun h10 =>
        th_bd (fX4_layFair h10) fun _u11 h11 =>
        th_bd (fX4_fairRate x2 h11) fun u12 h12 =>
        th_bd (fX4_at x1 h12) fun u13 h13 =>
        th_wr h13 2 643 u13 1 fun h14 =>
        some (u12 - u8, h14)
def tbX4_without : List (Nat × Instr × Nat) := [(0, .aload_n 0, 1), (1, .iconst 0, 1), (2, .putfield 55, 3), (5, .aload_n 0, 1), (6, .iload_n 1, 1), (7, .invokevirtual 125, 3), (10, .ifCond .eq 16, 3), (13, .aload_n 0, 1), (14, .iload_n 2, 1), (15, .invokevirtual 125, 3), (18, .ifCond .eq 8, 3), (21, .iload_n 1, 1), (22, .iload_n 2, 1), (23, .if_icmp .ne 6, 3), (26, .ldc 253, 2), (28, .ireturn, 1), (29, .aload_n 0, 1), (30, .invokevirtual 207, 3), (33, .aload_n 0, 1), (34, .iload_n 2, 1), (35, .invokevirtual 199, 3), (38, .istore_n 3, 1), (39, .aload_n 0, 1), (40, .getfield 15, 3), (43, .iload_n 1, 1), (44, .invokestatic 71, 3), (47, .iconst 0, 1), (48, .iastore, 1), (49, .aload_n 0, 1), (50, .invokevirtual 207, 3), (53, .aload_n 0, 1), (54, .iload_n 2, 1), (55, .invokevirtual 199, 3), (58, .iload_n 3, 1), (59, .isub, 1), (60, .istore 4, 2), (62, .aload_n 0, 1), (63, .getfield 15, 3), (66, .iload_n 1, 1), (67, .invokestatic 71, 3), (70, .iconst 1, 1), (71, .iastore, 1), (72, .iload 4, 2), (74, .ireturn, 1)]
theorem dtX4_without : th_dec cX4_without tbX4_without = true := by decide +kernel
section
variable {p0 : Program} {l : Launch} {e : Env} {s : State} {m : MethodId} {args : Array Value} {below : List Frame} {meth : Method} {c : Code} {D : va_G} {cI cZ : ClassId} {ad : Nat → Nat} {rr : Int32} {hh : th_H}
set_option maxHeartbeats 4000000 in
set_option maxRecDepth 100000 in
theorem mX4_without (l : Launch) (x1 : Int32) (x2 : Int32) (h : th_H) (rr : Int32) (hh : th_H) (hf : fX4_without x1 x2 h = some (rr, hh)) : th_MI l LM yX4_without cX4_without 5 (some .int) 5 115 [.ref 0, .int x1, .int x2] h (some (.int rr)) hh := by
  refine th_MI_of (ls := [.ref 0, .int x1, .int x2, .null, .null]) RX4 rfl rfl rfl (Nat.le_of_ble_eq_true rfl) ?_
  intro p0 e s m args below meth c D cI cZ ad X
  unfold fX4_without at hf
  refine V_aload_n (pc := 0) X (th_da dtX4_without 0 rfl) rfl ?_
  refine V_iconst (pc := 1) (v := 0) X (th_da dtX4_without 1 rfl) (by decide) ?_
  obtain ⟨h1, e1, hf⟩ := th_st_some hf
  refine V_putI (pc := 2) (j := 0) (ty := .int) X (th_da dtX4_without 2 rfl) wfl_X4_55 iX4 rfl rfl (Nat.le_of_ble_eq_true rfl) rfl tyX4 tyX4_ok nmX4 rfl (tyX4_ok 0 (Nat.le_of_ble_eq_true rfl)) rfl rfl e1 ?_
  refine V_aload_n (pc := 5) X (th_da dtX4_without 3 rfl) rfl ?_
  refine V_iload_n (pc := 6) X (th_da dtX4_without 4 rfl) rfl ?_
  obtain ⟨u2, h2, e2, hf⟩ := th_bd_some hf
  refine V_callVi (pc := 7) (q := 0) (As := [.int x1]) X (th_da dtX4_without 5 rfl) (mX4_isFlow l _ _ _ _ e2) wcd_X4_isFlow wml_X4_125 wim_X4_isFlow wse_X4_isFlow win_X4_isFlow hd_X4_isFlow ⟨Nat.le_of_ble_eq_true rfl, Nat.le_of_ble_eq_true rfl⟩ (Nat.le_of_ble_eq_true rfl) rfl rfl rfl ?_
  refine V_if_eq (pc := 10) (tgt := 26) X (th_da dtX4_without 6 rfl) (by decide) (fun c3 => ?_) (fun c3 => ?_)
  · rw [if_pos c3] at hf
    refine V_ldc (pc := 26) (v := (-2147483648)) X (th_da dtX4_without 14 rfl) wco_X4_253 ?_
    exact V_iretF (pc := 28) X (th_da dtX4_without 15 rfl) hf
  · rw [if_neg c3] at hf
    refine V_aload_n (pc := 13) X (th_da dtX4_without 7 rfl) rfl ?_
    refine V_iload_n (pc := 14) X (th_da dtX4_without 8 rfl) rfl ?_
    obtain ⟨u4, h4, e4, hf⟩ := th_bd_some hf
    refine V_callVi (pc := 15) (q := 0) (As := [.int x2]) X (th_da dtX4_without 9 rfl) (mX4_isFlow l _ _ _ _ e4) wcd_X4_isFlow wml_X4_125 wim_X4_isFlow wse_X4_isFlow win_X4_isFlow hd_X4_isFlow ⟨Nat.le_of_ble_eq_true rfl, Nat.le_of_ble_eq_true rfl⟩ (Nat.le_of_ble_eq_true rfl) rfl rfl rfl ?_
    refine V_if_eq (pc := 18) (tgt := 26) X (th_da dtX4_without 10 rfl) (by decide) (fun c5 => ?_) (fun c5 => ?_)
    · rw [if_pos c5] at hf
      refine V_ldc (pc := 26) (v := (-2147483648)) X (th_da dtX4_without 14 rfl) wco_X4_253 ?_
      exact V_iretF (pc := 28) X (th_da dtX4_without 15 rfl) hf
    · rw [if_neg c5] at hf
      refine V_iload_n (pc := 21) X (th_da dtX4_without 11 rfl) rfl ?_
      refine V_iload_n (pc := 22) X (th_da dtX4_without 12 rfl) rfl ?_
      refine V_icmp_ne (pc := 23) (tgt := 29) X (th_da dtX4_without 13 rfl) (by decide) (fun c6 => ?_) (fun c6 => ?_)
      · rw [if_pos c6] at hf
        refine V_ldc (pc := 26) (v := (-2147483648)) X (th_da dtX4_without 14 rfl) wco_X4_253 ?_
        exact V_iretF (pc := 28) X (th_da dtX4_without 15 rfl) hf
      · rw [if_neg c6] at hf
        refine V_aload_n (pc := 29) X (th_da dtX4_without 16 rfl) rfl ?_
        obtain ⟨u7, h7, e7, hf⟩ := th_bd_some hf
        refine V_callVv (pc := 30) (q := 0) (As := []) X (th_da dtX4_without 17 rfl) (mX4_layFair l _ _ _ e7) wcd_X4_layFair wml_X4_207 wim_X4_layFair wse_X4_layFair win_X4_layFair hd_X4_layFair ⟨Nat.le_of_ble_eq_true rfl, Nat.le_of_ble_eq_true rfl⟩ (Nat.le_of_ble_eq_true rfl) rfl rfl rfl ?_
        refine V_aload_n (pc := 33) X (th_da dtX4_without 18 rfl) rfl ?_
        refine V_iload_n (pc := 34) X (th_da dtX4_without 19 rfl) rfl ?_
        obtain ⟨u8, h8, e8, hf⟩ := th_bd_some hf
        refine V_callVi (pc := 35) (q := 0) (As := [.int x2]) X (th_da dtX4_without 20 rfl) (mX4_fairRate l _ _ _ _ e8) wcd_X4_fairRate wml_X4_199 wim_X4_fairRate wse_X4_fairRate win_X4_fairRate hd_X4_fairRate ⟨Nat.le_of_ble_eq_true rfl, Nat.le_of_ble_eq_true rfl⟩ (Nat.le_of_ble_eq_true rfl) rfl rfl rfl ?_
        refine V_istore_n (pc := 38) (ls2 := [.ref 0, .int x1, .int x2, .int u8, .null]) X (th_da dtX4_without 21 rfl) (Nat.le_of_ble_eq_true rfl) rfl rfl ?_
        refine V_aload_n (pc := 39) X (th_da dtX4_without 22 rfl) rfl ?_
        refine V_getR (pc := 40) (j := 2) (t := 2) X (th_da dtX4_without 23 rfl) wfl_X4_15 iX4 rfl rfl (Nat.le_of_ble_eq_true rfl) rfl ?_
        refine V_iload_n (pc := 43) X (th_da dtX4_without 24 rfl) rfl ?_
        obtain ⟨u9, h9, e9, hf⟩ := th_bd_some hf
        refine V_callSi (pc := 44) (As := [.int x1]) X (th_da dtX4_without 25 rfl) (mX4_at l _ _ _ _ e9) wcd_X4_at wml_X4_71 wst_X4_at win_X4_at hd_X4_at ⟨Nat.le_of_ble_eq_true rfl, Nat.le_of_ble_eq_true rfl⟩ (Nat.le_of_ble_eq_true rfl) rfl ?_
        refine V_iconst (pc := 47) (v := 0) X (th_da dtX4_without 26 rfl) (by decide) ?_
        obtain ⟨h10, e10, g10, hf⟩ := th_wr_some hf
        refine V_iast (pc := 48) X (th_da dtX4_without 27 rfl) rfl g10 e10 ?_
        refine V_aload_n (pc := 49) X (th_da dtX4_without 28 rfl) rfl ?_
        obtain ⟨u11, h11, e11, hf⟩ := th_bd_some hf
        refine V_callVv (pc := 50) (q := 0) (As := []) X (th_da dtX4_without 29 rfl) (mX4_layFair l _ _ _ e11) wcd_X4_layFair wml_X4_207 wim_X4_layFair wse_X4_layFair win_X4_layFair hd_X4_layFair ⟨Nat.le_of_ble_eq_true rfl, Nat.le_of_ble_eq_true rfl⟩ (Nat.le_of_ble_eq_true rfl) rfl rfl rfl ?_
        refine V_aload_n (pc := 53) X (th_da dtX4_without 30 rfl) rfl ?_
        refine V_iload_n (pc := 54) X (th_da dtX4_without 31 rfl) rfl ?_
        obtain ⟨u12, h12, e12, hf⟩ := th_bd_some hf
        refine V_callVi (pc := 55) (q := 0) (As := [.int x2]) X (th_da dtX4_without 32 rfl) (mX4_fairRate l _ _ _ _ e12) wcd_X4_fairRate wml_X4_199 wim_X4_fairRate wse_X4_fairRate win_X4_fairRate hd_X4_fairRate ⟨Nat.le_of_ble_eq_true rfl, Nat.le_of_ble_eq_true rfl⟩ (Nat.le_of_ble_eq_true rfl) rfl rfl rfl ?_
        refine V_iload_n (pc := 58) X (th_da dtX4_without 33 rfl) rfl ?_
        refine V_isub (pc := 59) X (th_da dtX4_without 34 rfl) ?_
        refine V_istore (pc := 60) (ls2 := [.ref 0, .int x1, .int x2, .int u8, .int (u12 - u8)]) X (th_da dtX4_without 35 rfl) (Nat.le_of_ble_eq_true rfl) rfl rfl ?_
        refine V_aload_n (pc := 62) X (th_da dtX4_without 36 rfl) rfl ?_
        refine V_getR (pc := 63) (j := 2) (t := 2) X (th_da dtX4_without 37 rfl) wfl_X4_15 iX4 rfl rfl (Nat.le_of_ble_eq_true rfl) rfl ?_
        refine V_iload_n (pc := 66) X (th_da dtX4_without 38 rfl) rfl ?_
        obtain ⟨u13, h13, e13, hf⟩ := th_bd_some hf
        refine V_callSi (pc := 67) (As := [.int x1]) X (th_da dtX4_without 39 rfl) (mX4_at l _ _ _ _ e13) wcd_X4_at wml_X4_71 wst_X4_at win_X4_at hd_X4_at ⟨Nat.le_of_ble_eq_true rfl, Nat.le_of_ble_eq_true rfl⟩ (Nat.le_of_ble_eq_true rfl) rfl ?_
        refine V_iconst (pc := 70) (v := 1) X (th_da dtX4_without 40 rfl) (by decide) ?_
        obtain ⟨h14, e14, g14, hf⟩ := th_wr_some hf
        refine V_iast (pc := 71) X (th_da dtX4_without 41 rfl) rfl g14 e14 ?_
        refine V_iload (pc := 72) X (th_da dtX4_without 42 rfl) rfl ?_
        exact V_iretF (pc := 74) X (th_da dtX4_without 43 rfl) hf
end
def fX4_wider_c87 (y1 : Int32) (y3 : Int32) (y4 : Int32) (y5 : Int32) (y6 : Int32) (z1 : Int32) (z2 : Int32) (h : th_H) : Option (Int32 × th_H) :=
  th_wr h 2 643 z1 z2 fun h1 =>
  th_bd (fX4_layFair h1) fun _u2 h2 =>
  th_wr h2 2 643 ((3 : Int32) + y1) y6 fun h3 =>
  if (y3 = 0 : Prop) then
    th_bd (fX4_leastLevel h3) fun u5 h5 =>
    some (u5 - y4, h5)
  else
    th_bd (fX4_allRates h3) fun u6 h6 =>
    some (u6 - y5, h6)
def fX4_wider (x1 : Int32) (x2 : Int32) (x3 : Int32) (h : th_H) : Option (Int32 × th_H) :=
  th_st (th_up h 0 0 0) fun h1 =>
  th_bd (fX4_isLink x1 h1) fun u2 h2 =>
  if (u2 = 0 : Prop) then
    some ((-2147483648), h2)
  else
    if (x2 < 0 : Prop) then
      some ((-2147483648), h2)
    else
      th_bd (fX4_in (Int32.toInt64 x3) 0 1 h2) fun u5 h5 =>
      if (u5 = 0 : Prop) then
        some ((-2147483648), h5)
      else
        th_bd (fX4_flowMany h5) fun u7 h7 =>
        if (u7 = 0 : Prop) then
          some ((-2147483648), h7)
        else
          th_bd (fX4_layFair h7) fun _u9 h9 =>
          th_bd (fX4_leastLevel h9) fun u10 h10 =>
          th_bd (fX4_allRates h10) fun u11 h11 =>
          th_rd h11 2 643 ((3 : Int32) + x1) fun v12 =>
          if (((1000000 : Int32) - v12) < x2 : Prop) then
            fX4_wider_c87 x1 x3 u10 u11 v12 ((3 : Int32) + x1) 1000000 h11
          else
            fX4_wider_c87 x1 x3 u10 u11 v12 ((3 : Int32) + x1) (v12 + x2) h11
def tbX4_wider : List (Nat × Instr × Nat) := [(0, .aload_n 0, 1), (1, .iconst 0, 1), (2, .putfield 55, 3), (5, .iload_n 1, 1), (6, .invokestatic 82, 3), (9, .ifCond .eq 24, 3), (12, .iload_n 2, 1), (13, .ifCond .lt 20, 3), (16, .iload_n 3, 1), (17, .i2l, 1), (18, .lconst 0, 1), (19, .lconst 1, 1), (20, .invokestatic 63, 3), (23, .ifCond .eq 10, 3), (26, .aload_n 0, 1), (27, .invokevirtual 128, 3), (30, .ifCond .ne 6, 3), (33, .ldc 253, 2), (35, .ireturn, 1), (36, .aload_n 0, 1), (37, .invokevirtual 207, 3), (40, .aload_n 0, 1), (41, .invokevirtual 213, 3), (44, .istore 4, 2), (46, .aload_n 0, 1), (47, .invokevirtual 216, 3), (50, .istore 5, 2), (52, .aload_n 0, 1), (53, .getfield 15, 3), (56, .iconst 3, 1), (57, .iload_n 1, 1), (58, .iadd, 1), (59, .iaload, 1), (60, .istore 6, 2), (62, .aload_n 0, 1), (63, .getfield 15, 3), (66, .iconst 3, 1), (67, .iload_n 1, 1), (68, .iadd, 1), (69, .iload_n 2, 1), (70, .ldc 93, 2), (72, .iload 6, 2), (74, .isub, 1), (75, .if_icmp .le 8, 3), (78, .ldc 93, 2), (80, .goto 7, 3), (83, .iload 6, 2), (85, .iload_n 2, 1), (86, .iadd, 1), (87, .iastore, 1), (88, .aload_n 0, 1), (89, .invokevirtual 207, 3), (92, .aload_n 0, 1), (93, .getfield 15, 3), (96, .iconst 3, 1), (97, .iload_n 1, 1), (98, .iadd, 1), (99, .iload 6, 2), (101, .iastore, 1), (102, .iload_n 3, 1), (103, .ifCond .ne 13, 3), (106, .aload_n 0, 1), (107, .invokevirtual 213, 3), (110, .iload 4, 2), (112, .isub, 1), (113, .goto 10, 3), (116, .aload_n 0, 1), (117, .invokevirtual 216, 3), (120, .iload 5, 2), (122, .isub, 1), (123, .ireturn, 1)]
theorem dtX4_wider : th_dec cX4_wider tbX4_wider = true := by decide +kernel
section
variable {p0 : Program} {l : Launch} {e : Env} {s : State} {m : MethodId} {args : Array Value} {below : List Frame} {meth : Method} {c : Code} {D : va_G} {cI cZ : ClassId} {ad : Nat → Nat} {rr : Int32} {hh : th_H}
set_option maxHeartbeats 4000000 in
set_option maxRecDepth 100000 in
theorem tX4_wider_c87 (X : th_X p0 s m args meth c D cI cZ ad LM 7 RX4 cX4_wider (some .int)) (y1 : Int32) (y3 : Int32) (y4 : Int32) (y5 : Int32) (y6 : Int32) (z1 : Int32) (z2 : Int32) (h : th_H) (hf : fX4_wider_c87 y1 y3 y4 y5 y6 z1 z2 h = some (rr, hh)) : th_V p0 l e { frames := 5, cells := 0, slots := 0, locals := 115 } s m args below meth c D cI cZ ad LM 7 (some (.int rr)) hh 87 [.ref 0, .int y1, .null, .int y3, .int y4, .int y5, .int y6] [.int z2, .int z1, .ref 2] h := by
  unfold fX4_wider_c87 at hf
  obtain ⟨h1, e1, g1, hf⟩ := th_wr_some hf
  refine V_iast (pc := 87) X (th_da dtX4_wider 49 rfl) rfl g1 e1 ?_
  refine V_aload_n (pc := 88) X (th_da dtX4_wider 50 rfl) rfl ?_
  obtain ⟨u2, h2, e2, hf⟩ := th_bd_some hf
  refine V_callVv (pc := 89) (q := 0) (As := []) X (th_da dtX4_wider 51 rfl) (mX4_layFair l _ _ _ e2) wcd_X4_layFair wml_X4_207 wim_X4_layFair wse_X4_layFair win_X4_layFair hd_X4_layFair ⟨Nat.le_of_ble_eq_true rfl, Nat.le_of_ble_eq_true rfl⟩ (Nat.le_of_ble_eq_true rfl) rfl rfl rfl ?_
  refine V_aload_n (pc := 92) X (th_da dtX4_wider 52 rfl) rfl ?_
  refine V_getR (pc := 93) (j := 2) (t := 2) X (th_da dtX4_wider 53 rfl) wfl_X4_15 iX4 rfl rfl (Nat.le_of_ble_eq_true rfl) rfl ?_
  refine V_iconst (pc := 96) (v := 3) X (th_da dtX4_wider 54 rfl) (by decide) ?_
  refine V_iload_n (pc := 97) X (th_da dtX4_wider 55 rfl) rfl ?_
  refine V_iadd (pc := 98) X (th_da dtX4_wider 56 rfl) ?_
  refine V_iload (pc := 99) X (th_da dtX4_wider 57 rfl) rfl ?_
  obtain ⟨h3, e3, g3, hf⟩ := th_wr_some hf
  refine V_iast (pc := 101) X (th_da dtX4_wider 58 rfl) rfl g3 e3 ?_
  refine V_iload_n (pc := 102) X (th_da dtX4_wider 59 rfl) rfl ?_
  refine V_if_ne (pc := 103) (tgt := 116) X (th_da dtX4_wider 60 rfl) (by decide) (fun c4 => ?_) (fun c4 => ?_)
  · rw [if_pos c4] at hf
    refine V_aload_n (pc := 106) X (th_da dtX4_wider 61 rfl) rfl ?_
    obtain ⟨u5, h5, e5, hf⟩ := th_bd_some hf
    refine V_callVi (pc := 107) (q := 0) (As := []) X (th_da dtX4_wider 62 rfl) (mX4_leastLevel l _ _ _ e5) wcd_X4_leastLevel wml_X4_213 wim_X4_leastLevel wse_X4_leastLevel win_X4_leastLevel hd_X4_leastLevel ⟨Nat.le_of_ble_eq_true rfl, Nat.le_of_ble_eq_true rfl⟩ (Nat.le_of_ble_eq_true rfl) rfl rfl rfl ?_
    refine V_iload (pc := 110) X (th_da dtX4_wider 63 rfl) rfl ?_
    refine V_isub (pc := 112) X (th_da dtX4_wider 64 rfl) ?_
    refine V_goto (pc := 113) (tgt := 123) X (th_da dtX4_wider 65 rfl) (by decide) ?_
    exact V_iretF (pc := 123) X (th_da dtX4_wider 70 rfl) hf
  · rw [if_neg c4] at hf
    refine V_aload_n (pc := 116) X (th_da dtX4_wider 66 rfl) rfl ?_
    obtain ⟨u6, h6, e6, hf⟩ := th_bd_some hf
    refine V_callVi (pc := 117) (q := 0) (As := []) X (th_da dtX4_wider 67 rfl) (mX4_allRates l _ _ _ e6) wcd_X4_allRates wml_X4_216 wim_X4_allRates wse_X4_allRates win_X4_allRates hd_X4_allRates ⟨Nat.le_of_ble_eq_true rfl, Nat.le_of_ble_eq_true rfl⟩ (Nat.le_of_ble_eq_true rfl) rfl rfl rfl ?_
    refine V_iload (pc := 120) X (th_da dtX4_wider 68 rfl) rfl ?_
    refine V_isub (pc := 122) X (th_da dtX4_wider 69 rfl) ?_
    exact V_iretF (pc := 123) X (th_da dtX4_wider 70 rfl) hf
set_option maxHeartbeats 4000000 in
set_option maxRecDepth 100000 in
theorem mX4_wider (l : Launch) (x1 : Int32) (x2 : Int32) (x3 : Int32) (h : th_H) (rr : Int32) (hh : th_H) (hf : fX4_wider x1 x2 x3 h = some (rr, hh)) : th_MI l LM yX4_wider cX4_wider 7 (some .int) 5 115 [.ref 0, .int x1, .int x2, .int x3] h (some (.int rr)) hh := by
  refine th_MI_of (ls := [.ref 0, .int x1, .int x2, .int x3, .null, .null, .null]) RX4 rfl rfl rfl (Nat.le_of_ble_eq_true rfl) ?_
  intro p0 e s m args below meth c D cI cZ ad X
  unfold fX4_wider at hf
  refine V_aload_n (pc := 0) X (th_da dtX4_wider 0 rfl) rfl ?_
  refine V_iconst (pc := 1) (v := 0) X (th_da dtX4_wider 1 rfl) (by decide) ?_
  obtain ⟨h1, e1, hf⟩ := th_st_some hf
  refine V_putI (pc := 2) (j := 0) (ty := .int) X (th_da dtX4_wider 2 rfl) wfl_X4_55 iX4 rfl rfl (Nat.le_of_ble_eq_true rfl) rfl tyX4 tyX4_ok nmX4 rfl (tyX4_ok 0 (Nat.le_of_ble_eq_true rfl)) rfl rfl e1 ?_
  refine V_iload_n (pc := 5) X (th_da dtX4_wider 3 rfl) rfl ?_
  obtain ⟨u2, h2, e2, hf⟩ := th_bd_some hf
  refine V_callSi (pc := 6) (As := [.int x1]) X (th_da dtX4_wider 4 rfl) (mX4_isLink l _ _ _ _ e2) wcd_X4_isLink wml_X4_82 wst_X4_isLink win_X4_isLink hd_X4_isLink ⟨Nat.le_of_ble_eq_true rfl, Nat.le_of_ble_eq_true rfl⟩ (Nat.le_of_ble_eq_true rfl) rfl ?_
  refine V_if_eq (pc := 9) (tgt := 33) X (th_da dtX4_wider 5 rfl) (by decide) (fun c3 => ?_) (fun c3 => ?_)
  · rw [if_pos c3] at hf
    refine V_ldc (pc := 33) (v := (-2147483648)) X (th_da dtX4_wider 17 rfl) wco_X4_253 ?_
    exact V_iretF (pc := 35) X (th_da dtX4_wider 18 rfl) hf
  · rw [if_neg c3] at hf
    refine V_iload_n (pc := 12) X (th_da dtX4_wider 6 rfl) rfl ?_
    refine V_if_lt (pc := 13) (tgt := 33) X (th_da dtX4_wider 7 rfl) (by decide) (fun c4 => ?_) (fun c4 => ?_)
    · rw [if_pos c4] at hf
      refine V_ldc (pc := 33) (v := (-2147483648)) X (th_da dtX4_wider 17 rfl) wco_X4_253 ?_
      exact V_iretF (pc := 35) X (th_da dtX4_wider 18 rfl) hf
    · rw [if_neg c4] at hf
      refine V_iload_n (pc := 16) X (th_da dtX4_wider 8 rfl) rfl ?_
      refine V_i2l (pc := 17) X (th_da dtX4_wider 9 rfl) ?_
      refine V_lconst (pc := 18) (v := 0) X (th_da dtX4_wider 10 rfl) (by decide) ?_
      refine V_lconst (pc := 19) (v := 1) X (th_da dtX4_wider 11 rfl) (by decide) ?_
      obtain ⟨u5, h5, e5, hf⟩ := th_bd_some hf
      refine V_callSi (pc := 20) (As := [.long (Int32.toInt64 x3), .long 0, .long 1]) X (th_da dtX4_wider 12 rfl) (mX4_in l _ _ _ _ _ _ e5) wcd_X4_in wml_X4_63 wst_X4_in win_X4_in hd_X4_in ⟨Nat.le_of_ble_eq_true rfl, Nat.le_of_ble_eq_true rfl⟩ (Nat.le_of_ble_eq_true rfl) rfl ?_
      refine V_if_eq (pc := 23) (tgt := 33) X (th_da dtX4_wider 13 rfl) (by decide) (fun c6 => ?_) (fun c6 => ?_)
      · rw [if_pos c6] at hf
        refine V_ldc (pc := 33) (v := (-2147483648)) X (th_da dtX4_wider 17 rfl) wco_X4_253 ?_
        exact V_iretF (pc := 35) X (th_da dtX4_wider 18 rfl) hf
      · rw [if_neg c6] at hf
        refine V_aload_n (pc := 26) X (th_da dtX4_wider 14 rfl) rfl ?_
        obtain ⟨u7, h7, e7, hf⟩ := th_bd_some hf
        refine V_callVi (pc := 27) (q := 0) (As := []) X (th_da dtX4_wider 15 rfl) (mX4_flowMany l _ _ _ e7) wcd_X4_flowMany wml_X4_128 wim_X4_flowMany wse_X4_flowMany win_X4_flowMany hd_X4_flowMany ⟨Nat.le_of_ble_eq_true rfl, Nat.le_of_ble_eq_true rfl⟩ (Nat.le_of_ble_eq_true rfl) rfl rfl rfl ?_
        refine V_if_ne (pc := 30) (tgt := 36) X (th_da dtX4_wider 16 rfl) (by decide) (fun c8 => ?_) (fun c8 => ?_)
        · rw [if_pos c8] at hf
          refine V_ldc (pc := 33) (v := (-2147483648)) X (th_da dtX4_wider 17 rfl) wco_X4_253 ?_
          exact V_iretF (pc := 35) X (th_da dtX4_wider 18 rfl) hf
        · rw [if_neg c8] at hf
          refine V_aload_n (pc := 36) X (th_da dtX4_wider 19 rfl) rfl ?_
          obtain ⟨u9, h9, e9, hf⟩ := th_bd_some hf
          refine V_callVv (pc := 37) (q := 0) (As := []) X (th_da dtX4_wider 20 rfl) (mX4_layFair l _ _ _ e9) wcd_X4_layFair wml_X4_207 wim_X4_layFair wse_X4_layFair win_X4_layFair hd_X4_layFair ⟨Nat.le_of_ble_eq_true rfl, Nat.le_of_ble_eq_true rfl⟩ (Nat.le_of_ble_eq_true rfl) rfl rfl rfl ?_
          refine V_aload_n (pc := 40) X (th_da dtX4_wider 21 rfl) rfl ?_
          obtain ⟨u10, h10, e10, hf⟩ := th_bd_some hf
          refine V_callVi (pc := 41) (q := 0) (As := []) X (th_da dtX4_wider 22 rfl) (mX4_leastLevel l _ _ _ e10) wcd_X4_leastLevel wml_X4_213 wim_X4_leastLevel wse_X4_leastLevel win_X4_leastLevel hd_X4_leastLevel ⟨Nat.le_of_ble_eq_true rfl, Nat.le_of_ble_eq_true rfl⟩ (Nat.le_of_ble_eq_true rfl) rfl rfl rfl ?_
          refine V_istore (pc := 44) (ls2 := [.ref 0, .int x1, .int x2, .int x3, .int u10, .null, .null]) X (th_da dtX4_wider 23 rfl) (Nat.le_of_ble_eq_true rfl) rfl rfl ?_
          refine V_aload_n (pc := 46) X (th_da dtX4_wider 24 rfl) rfl ?_
          obtain ⟨u11, h11, e11, hf⟩ := th_bd_some hf
          refine V_callVi (pc := 47) (q := 0) (As := []) X (th_da dtX4_wider 25 rfl) (mX4_allRates l _ _ _ e11) wcd_X4_allRates wml_X4_216 wim_X4_allRates wse_X4_allRates win_X4_allRates hd_X4_allRates ⟨Nat.le_of_ble_eq_true rfl, Nat.le_of_ble_eq_true rfl⟩ (Nat.le_of_ble_eq_true rfl) rfl rfl rfl ?_
          refine V_istore (pc := 50) (ls2 := [.ref 0, .int x1, .int x2, .int x3, .int u10, .int u11, .null]) X (th_da dtX4_wider 26 rfl) (Nat.le_of_ble_eq_true rfl) rfl rfl ?_
          refine V_aload_n (pc := 52) X (th_da dtX4_wider 27 rfl) rfl ?_
          refine V_getR (pc := 53) (j := 2) (t := 2) X (th_da dtX4_wider 28 rfl) wfl_X4_15 iX4 rfl rfl (Nat.le_of_ble_eq_true rfl) rfl ?_
          refine V_iconst (pc := 56) (v := 3) X (th_da dtX4_wider 29 rfl) (by decide) ?_
          refine V_iload_n (pc := 57) X (th_da dtX4_wider 30 rfl) rfl ?_
          refine V_iadd (pc := 58) X (th_da dtX4_wider 31 rfl) ?_
          obtain ⟨v12, e12, g12, hf⟩ := th_rd_some hf
          refine V_iald (pc := 59) X (th_da dtX4_wider 32 rfl) rfl g12 e12 ?_
          refine V_istore (pc := 60) (ls2 := [.ref 0, .int x1, .int x2, .int x3, .int u10, .int u11, .int v12]) X (th_da dtX4_wider 33 rfl) (Nat.le_of_ble_eq_true rfl) rfl rfl ?_
          refine V_aload_n (pc := 62) X (th_da dtX4_wider 34 rfl) rfl ?_
          refine V_getR (pc := 63) (j := 2) (t := 2) X (th_da dtX4_wider 35 rfl) wfl_X4_15 iX4 rfl rfl (Nat.le_of_ble_eq_true rfl) rfl ?_
          refine V_iconst (pc := 66) (v := 3) X (th_da dtX4_wider 36 rfl) (by decide) ?_
          refine V_iload_n (pc := 67) X (th_da dtX4_wider 37 rfl) rfl ?_
          refine V_iadd (pc := 68) X (th_da dtX4_wider 38 rfl) ?_
          refine V_iload_n (pc := 69) X (th_da dtX4_wider 39 rfl) rfl ?_
          refine V_ldc (pc := 70) (v := 1000000) X (th_da dtX4_wider 40 rfl) wco_X4_93 ?_
          refine V_iload (pc := 72) X (th_da dtX4_wider 41 rfl) rfl ?_
          refine V_isub (pc := 74) X (th_da dtX4_wider 42 rfl) ?_
          refine V_icmp_le (pc := 75) (tgt := 83) X (th_da dtX4_wider 43 rfl) (by decide) (fun c13 => ?_) (fun c13 => ?_)
          · rw [if_pos c13] at hf
            refine V_ldc (pc := 78) (v := 1000000) X (th_da dtX4_wider 44 rfl) wco_X4_93 ?_
            refine V_goto (pc := 80) (tgt := 87) X (th_da dtX4_wider 45 rfl) (by decide) ?_
            refine V_mask [true, true, false, true, true, true, true] (ls2 := [.ref 0, .int x1, .null, .int x3, .int u10, .int u11, .int v12]) rfl ?_
            exact tX4_wider_c87 X _ _ _ _ _ _ _ _ hf
          · rw [if_neg c13] at hf
            refine V_iload (pc := 83) X (th_da dtX4_wider 46 rfl) rfl ?_
            refine V_iload_n (pc := 85) X (th_da dtX4_wider 47 rfl) rfl ?_
            refine V_iadd (pc := 86) X (th_da dtX4_wider 48 rfl) ?_
            refine V_mask [true, true, false, true, true, true, true] (ls2 := [.ref 0, .int x1, .null, .int x3, .int u10, .int u11, .int v12]) rfl ?_
            exact tX4_wider_c87 X _ _ _ _ _ _ _ _ hf
end
def fX4_tight_c84 (k18 : Int32 → Int32 → Int32 → th_H → Option (Int32 × th_H)) (y1 : Int32) (y3 : Int32) (z0 : Int32) (h : th_H) : Option (Int32 × th_H) :=
  th_bd (fX4_leastLevel h) fun u1 h1 =>
  if (y1 < u1 : Prop) then
    th_bd (fX4_leastLevel h1) fun u3 h3 =>
    k18 u3 z0 (y3 + 1) h3
  else
    k18 y1 z0 (y3 + 1) h1
def fX4_tight_c18 : Nat → Int32 → Int32 → Int32 → th_H → Option (Int32 × th_H)
  | 0, _, _, _, _ => none
  | n + 1, y1, y2, y3, h =>
    if (y3 < 10 : Prop) then
      if (y1 = (-1) : Prop) then
        some (y2, h)
      else
        th_rd h 2 643 ((3 : Int32) + y3) fun v3 =>
        th_bd (fX4_lesser 1000000 (v3 + 100) h) fun u4 h4 =>
        th_wr h4 2 643 ((3 : Int32) + y3) u4 fun h5 =>
        th_bd (fX4_layFair h5) fun _u6 h6 =>
        th_wr h6 2 643 ((3 : Int32) + y3) v3 fun h7 =>
        th_bd (fX4_leastLevel h7) fun u8 h8 =>
        if (y1 < u8 : Prop) then
          fX4_tight_c84 (fX4_tight_c18 n) y1 y3 y3 h8
        else
          fX4_tight_c84 (fX4_tight_c18 n) y1 y3 y2 h8
    else
      some (y2, h)
def fX4_tight (h : th_H) : Option (Int32 × th_H) :=
  th_st (th_up h 0 0 0) fun h1 =>
  th_bd (fX4_layFair h1) fun _u2 h2 =>
  th_bd (fX4_leastLevel h2) fun u3 h3 =>
  fX4_tight_c18 1000 u3 (-1) 0 h3
def tbX4_tight : List (Nat × Instr × Nat) := [(0, .aload_n 0, 1), (1, .iconst 0, 1), (2, .putfield 55, 3), (5, .aload_n 0, 1), (6, .invokevirtual 207, 3), (9, .aload_n 0, 1), (10, .invokevirtual 213, 3), (13, .istore_n 1, 1), (14, .iconst (-1), 1), (15, .istore_n 2, 1), (16, .iconst 0, 1), (17, .istore_n 3, 1), (18, .iload_n 3, 1), (19, .bipush 10, 2), (21, .if_icmp .ge 87, 3), (24, .iload_n 1, 1), (25, .iconst (-1), 1), (26, .if_icmp .eq 82, 3), (29, .aload_n 0, 1), (30, .getfield 15, 3), (33, .iconst 3, 1), (34, .iload_n 3, 1), (35, .iadd, 1), (36, .iaload, 1), (37, .istore 4, 2), (39, .aload_n 0, 1), (40, .getfield 15, 3), (43, .iconst 3, 1), (44, .iload_n 3, 1), (45, .iadd, 1), (46, .ldc 93, 2), (48, .iload 4, 2), (50, .bipush 100, 2), (52, .iadd, 1), (53, .invokestatic 108, 3), (56, .iastore, 1), (57, .aload_n 0, 1), (58, .invokevirtual 207, 3), (61, .aload_n 0, 1), (62, .getfield 15, 3), (65, .iconst 3, 1), (66, .iload_n 3, 1), (67, .iadd, 1), (68, .iload 4, 2), (70, .iastore, 1), (71, .aload_n 0, 1), (72, .invokevirtual 213, 3), (75, .iload_n 1, 1), (76, .if_icmp .le 7, 3), (79, .iload_n 3, 1), (80, .goto 4, 3), (83, .iload_n 2, 1), (84, .istore_n 2, 1), (85, .aload_n 0, 1), (86, .invokevirtual 213, 3), (89, .iload_n 1, 1), (90, .if_icmp .le 10, 3), (93, .aload_n 0, 1), (94, .invokevirtual 213, 3), (97, .goto 4, 3), (100, .iload_n 1, 1), (101, .istore_n 1, 1), (102, .iinc 3 1, 3), (105, .goto (-87), 3), (108, .iload_n 2, 1), (109, .ireturn, 1)]
theorem dtX4_tight : th_dec cX4_tight tbX4_tight = true := by decide +kernel
section
variable {p0 : Program} {l : Launch} {e : Env} {s : State} {m : MethodId} {args : Array Value} {below : List Frame} {meth : Method} {c : Code} {D : va_G} {cI cZ : ClassId} {ad : Nat → Nat} {rr : Int32} {hh : th_H}
set_option maxHeartbeats 4000000 in
set_option maxRecDepth 100000 in
theorem tX4_tight_c84 (X : th_X p0 s m args meth c D cI cZ ad LM 5 RX4 cX4_tight (some .int)) (k18 : Int32 → Int32 → Int32 → th_H → Option (Int32 × th_H)) (hk18 : ∀ (y1 : Int32) (y2 : Int32) (y3 : Int32) (h : th_H), k18 y1 y2 y3 h = some (rr, hh) → th_V p0 l e { frames := 5, cells := 0, slots := 0, locals := 115 } s m args below meth c D cI cZ ad LM 5 (some (.int rr)) hh 18 [.ref 0, .int y1, .int y2, .int y3, .null] [] h) (y1 : Int32) (y3 : Int32) (z0 : Int32) (h : th_H) (hf : fX4_tight_c84 k18 y1 y3 z0 h = some (rr, hh)) : th_V p0 l e { frames := 5, cells := 0, slots := 0, locals := 115 } s m args below meth c D cI cZ ad LM 5 (some (.int rr)) hh 84 [.ref 0, .int y1, .null, .int y3, .null] [.int z0] h := by
  unfold fX4_tight_c84 at hf
  refine V_istore_n (pc := 84) (ls2 := [.ref 0, .int y1, .int z0, .int y3, .null]) X (th_da dtX4_tight 52 rfl) (Nat.le_of_ble_eq_true rfl) rfl rfl ?_
  refine V_aload_n (pc := 85) X (th_da dtX4_tight 53 rfl) rfl ?_
  obtain ⟨u1, h1, e1, hf⟩ := th_bd_some hf
  refine V_callVi (pc := 86) (q := 0) (As := []) X (th_da dtX4_tight 54 rfl) (mX4_leastLevel l _ _ _ e1) wcd_X4_leastLevel wml_X4_213 wim_X4_leastLevel wse_X4_leastLevel win_X4_leastLevel hd_X4_leastLevel ⟨Nat.le_of_ble_eq_true rfl, Nat.le_of_ble_eq_true rfl⟩ (Nat.le_of_ble_eq_true rfl) rfl rfl rfl ?_
  refine V_iload_n (pc := 89) X (th_da dtX4_tight 55 rfl) rfl ?_
  refine V_icmp_le (pc := 90) (tgt := 100) X (th_da dtX4_tight 56 rfl) (by decide) (fun c2 => ?_) (fun c2 => ?_)
  · rw [if_pos c2] at hf
    refine V_aload_n (pc := 93) X (th_da dtX4_tight 57 rfl) rfl ?_
    obtain ⟨u3, h3, e3, hf⟩ := th_bd_some hf
    refine V_callVi (pc := 94) (q := 0) (As := []) X (th_da dtX4_tight 58 rfl) (mX4_leastLevel l _ _ _ e3) wcd_X4_leastLevel wml_X4_213 wim_X4_leastLevel wse_X4_leastLevel win_X4_leastLevel hd_X4_leastLevel ⟨Nat.le_of_ble_eq_true rfl, Nat.le_of_ble_eq_true rfl⟩ (Nat.le_of_ble_eq_true rfl) rfl rfl rfl ?_
    refine V_goto (pc := 97) (tgt := 101) X (th_da dtX4_tight 59 rfl) (by decide) ?_
    refine V_istore_n (pc := 101) (ls2 := [.ref 0, .int u3, .int z0, .int y3, .null]) X (th_da dtX4_tight 61 rfl) (Nat.le_of_ble_eq_true rfl) rfl rfl ?_
    refine V_iinc (pc := 102) (v := y3 + 1) (ls2 := [.ref 0, .int u3, .int z0, .int (y3 + 1), .null]) X (th_da dtX4_tight 62 rfl) rfl rfl (Nat.le_of_ble_eq_true rfl) rfl rfl ?_
    refine V_goto (pc := 105) (tgt := 18) X (th_da dtX4_tight 63 rfl) (by decide) ?_
    exact hk18 _ _ _ _ hf
  · rw [if_neg c2] at hf
    refine V_iload_n (pc := 100) X (th_da dtX4_tight 60 rfl) rfl ?_
    refine V_istore_n (pc := 101) (ls2 := [.ref 0, .int y1, .int z0, .int y3, .null]) X (th_da dtX4_tight 61 rfl) (Nat.le_of_ble_eq_true rfl) rfl rfl ?_
    refine V_iinc (pc := 102) (v := y3 + 1) (ls2 := [.ref 0, .int y1, .int z0, .int (y3 + 1), .null]) X (th_da dtX4_tight 62 rfl) rfl rfl (Nat.le_of_ble_eq_true rfl) rfl rfl ?_
    refine V_goto (pc := 105) (tgt := 18) X (th_da dtX4_tight 63 rfl) (by decide) ?_
    exact hk18 _ _ _ _ hf
set_option maxHeartbeats 4000000 in
set_option maxRecDepth 100000 in
theorem tX4_tight_c18 (X : th_X p0 s m args meth c D cI cZ ad LM 5 RX4 cX4_tight (some .int)) : ∀ (n : Nat) (y1 : Int32) (y2 : Int32) (y3 : Int32) (h : th_H), fX4_tight_c18 n y1 y2 y3 h = some (rr, hh) → th_V p0 l e { frames := 5, cells := 0, slots := 0, locals := 115 } s m args below meth c D cI cZ ad LM 5 (some (.int rr)) hh 18 [.ref 0, .int y1, .int y2, .int y3, .null] [] h := by
  intro n
  induction n with
  | zero => intro y1 y2 y3 h hf; cases hf
  | succ n ih =>
    intro y1 y2 y3 h hf
    rw [fX4_tight_c18] at hf
    refine V_iload_n (pc := 18) X (th_da dtX4_tight 12 rfl) rfl ?_
    refine V_bipush (pc := 19) (v := 10) X (th_da dtX4_tight 13 rfl) (by decide) ?_
    refine V_icmp_ge (pc := 21) (tgt := 108) X (th_da dtX4_tight 14 rfl) (by decide) (fun c1 => ?_) (fun c1 => ?_)
    · rw [if_pos c1] at hf
      refine V_iload_n (pc := 24) X (th_da dtX4_tight 15 rfl) rfl ?_
      refine V_iconst (pc := 25) (v := (-1)) X (th_da dtX4_tight 16 rfl) (by decide) ?_
      refine V_icmp_eq (pc := 26) (tgt := 108) X (th_da dtX4_tight 17 rfl) (by decide) (fun c2 => ?_) (fun c2 => ?_)
      · rw [if_pos c2] at hf
        refine V_iload_n (pc := 108) X (th_da dtX4_tight 64 rfl) rfl ?_
        exact V_iretF (pc := 109) X (th_da dtX4_tight 65 rfl) hf
      · rw [if_neg c2] at hf
        refine V_aload_n (pc := 29) X (th_da dtX4_tight 18 rfl) rfl ?_
        refine V_getR (pc := 30) (j := 2) (t := 2) X (th_da dtX4_tight 19 rfl) wfl_X4_15 iX4 rfl rfl (Nat.le_of_ble_eq_true rfl) rfl ?_
        refine V_iconst (pc := 33) (v := 3) X (th_da dtX4_tight 20 rfl) (by decide) ?_
        refine V_iload_n (pc := 34) X (th_da dtX4_tight 21 rfl) rfl ?_
        refine V_iadd (pc := 35) X (th_da dtX4_tight 22 rfl) ?_
        obtain ⟨v3, e3, g3, hf⟩ := th_rd_some hf
        refine V_iald (pc := 36) X (th_da dtX4_tight 23 rfl) rfl g3 e3 ?_
        refine V_istore (pc := 37) (ls2 := [.ref 0, .int y1, .int y2, .int y3, .int v3]) X (th_da dtX4_tight 24 rfl) (Nat.le_of_ble_eq_true rfl) rfl rfl ?_
        refine V_aload_n (pc := 39) X (th_da dtX4_tight 25 rfl) rfl ?_
        refine V_getR (pc := 40) (j := 2) (t := 2) X (th_da dtX4_tight 26 rfl) wfl_X4_15 iX4 rfl rfl (Nat.le_of_ble_eq_true rfl) rfl ?_
        refine V_iconst (pc := 43) (v := 3) X (th_da dtX4_tight 27 rfl) (by decide) ?_
        refine V_iload_n (pc := 44) X (th_da dtX4_tight 28 rfl) rfl ?_
        refine V_iadd (pc := 45) X (th_da dtX4_tight 29 rfl) ?_
        refine V_ldc (pc := 46) (v := 1000000) X (th_da dtX4_tight 30 rfl) wco_X4_93 ?_
        refine V_iload (pc := 48) X (th_da dtX4_tight 31 rfl) rfl ?_
        refine V_bipush (pc := 50) (v := 100) X (th_da dtX4_tight 32 rfl) (by decide) ?_
        refine V_iadd (pc := 52) X (th_da dtX4_tight 33 rfl) ?_
        obtain ⟨u4, h4, e4, hf⟩ := th_bd_some hf
        refine V_callSi (pc := 53) (As := [.int 1000000, .int (v3 + 100)]) X (th_da dtX4_tight 34 rfl) (mX4_lesser l _ _ _ _ _ e4) wcd_X4_lesser wml_X4_108 wst_X4_lesser win_X4_lesser hd_X4_lesser ⟨Nat.le_of_ble_eq_true rfl, Nat.le_of_ble_eq_true rfl⟩ (Nat.le_of_ble_eq_true rfl) rfl ?_
        obtain ⟨h5, e5, g5, hf⟩ := th_wr_some hf
        refine V_iast (pc := 56) X (th_da dtX4_tight 35 rfl) rfl g5 e5 ?_
        refine V_aload_n (pc := 57) X (th_da dtX4_tight 36 rfl) rfl ?_
        obtain ⟨u6, h6, e6, hf⟩ := th_bd_some hf
        refine V_callVv (pc := 58) (q := 0) (As := []) X (th_da dtX4_tight 37 rfl) (mX4_layFair l _ _ _ e6) wcd_X4_layFair wml_X4_207 wim_X4_layFair wse_X4_layFair win_X4_layFair hd_X4_layFair ⟨Nat.le_of_ble_eq_true rfl, Nat.le_of_ble_eq_true rfl⟩ (Nat.le_of_ble_eq_true rfl) rfl rfl rfl ?_
        refine V_aload_n (pc := 61) X (th_da dtX4_tight 38 rfl) rfl ?_
        refine V_getR (pc := 62) (j := 2) (t := 2) X (th_da dtX4_tight 39 rfl) wfl_X4_15 iX4 rfl rfl (Nat.le_of_ble_eq_true rfl) rfl ?_
        refine V_iconst (pc := 65) (v := 3) X (th_da dtX4_tight 40 rfl) (by decide) ?_
        refine V_iload_n (pc := 66) X (th_da dtX4_tight 41 rfl) rfl ?_
        refine V_iadd (pc := 67) X (th_da dtX4_tight 42 rfl) ?_
        refine V_iload (pc := 68) X (th_da dtX4_tight 43 rfl) rfl ?_
        obtain ⟨h7, e7, g7, hf⟩ := th_wr_some hf
        refine V_iast (pc := 70) X (th_da dtX4_tight 44 rfl) rfl g7 e7 ?_
        refine V_aload_n (pc := 71) X (th_da dtX4_tight 45 rfl) rfl ?_
        obtain ⟨u8, h8, e8, hf⟩ := th_bd_some hf
        refine V_callVi (pc := 72) (q := 0) (As := []) X (th_da dtX4_tight 46 rfl) (mX4_leastLevel l _ _ _ e8) wcd_X4_leastLevel wml_X4_213 wim_X4_leastLevel wse_X4_leastLevel win_X4_leastLevel hd_X4_leastLevel ⟨Nat.le_of_ble_eq_true rfl, Nat.le_of_ble_eq_true rfl⟩ (Nat.le_of_ble_eq_true rfl) rfl rfl rfl ?_
        refine V_iload_n (pc := 75) X (th_da dtX4_tight 47 rfl) rfl ?_
        refine V_icmp_le (pc := 76) (tgt := 83) X (th_da dtX4_tight 48 rfl) (by decide) (fun c9 => ?_) (fun c9 => ?_)
        · rw [if_pos c9] at hf
          refine V_iload_n (pc := 79) X (th_da dtX4_tight 49 rfl) rfl ?_
          refine V_goto (pc := 80) (tgt := 84) X (th_da dtX4_tight 50 rfl) (by decide) ?_
          refine V_mask [true, true, false, true, false] (ls2 := [.ref 0, .int y1, .null, .int y3, .null]) rfl ?_
          exact tX4_tight_c84 X _ ih _ _ _ _ hf
        · rw [if_neg c9] at hf
          refine V_iload_n (pc := 83) X (th_da dtX4_tight 51 rfl) rfl ?_
          refine V_mask [true, true, false, true, false] (ls2 := [.ref 0, .int y1, .null, .int y3, .null]) rfl ?_
          exact tX4_tight_c84 X _ ih _ _ _ _ hf
    · rw [if_neg c1] at hf
      refine V_iload_n (pc := 108) X (th_da dtX4_tight 64 rfl) rfl ?_
      exact V_iretF (pc := 109) X (th_da dtX4_tight 65 rfl) hf
set_option maxHeartbeats 4000000 in
set_option maxRecDepth 100000 in
theorem mX4_tight (l : Launch) (h : th_H) (rr : Int32) (hh : th_H) (hf : fX4_tight h = some (rr, hh)) : th_MI l LM yX4_tight cX4_tight 5 (some .int) 5 115 [.ref 0] h (some (.int rr)) hh := by
  refine th_MI_of (ls := [.ref 0, .null, .null, .null, .null]) RX4 rfl rfl rfl (Nat.le_of_ble_eq_true rfl) ?_
  intro p0 e s m args below meth c D cI cZ ad X
  unfold fX4_tight at hf
  refine V_aload_n (pc := 0) X (th_da dtX4_tight 0 rfl) rfl ?_
  refine V_iconst (pc := 1) (v := 0) X (th_da dtX4_tight 1 rfl) (by decide) ?_
  obtain ⟨h1, e1, hf⟩ := th_st_some hf
  refine V_putI (pc := 2) (j := 0) (ty := .int) X (th_da dtX4_tight 2 rfl) wfl_X4_55 iX4 rfl rfl (Nat.le_of_ble_eq_true rfl) rfl tyX4 tyX4_ok nmX4 rfl (tyX4_ok 0 (Nat.le_of_ble_eq_true rfl)) rfl rfl e1 ?_
  refine V_aload_n (pc := 5) X (th_da dtX4_tight 3 rfl) rfl ?_
  obtain ⟨u2, h2, e2, hf⟩ := th_bd_some hf
  refine V_callVv (pc := 6) (q := 0) (As := []) X (th_da dtX4_tight 4 rfl) (mX4_layFair l _ _ _ e2) wcd_X4_layFair wml_X4_207 wim_X4_layFair wse_X4_layFair win_X4_layFair hd_X4_layFair ⟨Nat.le_of_ble_eq_true rfl, Nat.le_of_ble_eq_true rfl⟩ (Nat.le_of_ble_eq_true rfl) rfl rfl rfl ?_
  refine V_aload_n (pc := 9) X (th_da dtX4_tight 5 rfl) rfl ?_
  obtain ⟨u3, h3, e3, hf⟩ := th_bd_some hf
  refine V_callVi (pc := 10) (q := 0) (As := []) X (th_da dtX4_tight 6 rfl) (mX4_leastLevel l _ _ _ e3) wcd_X4_leastLevel wml_X4_213 wim_X4_leastLevel wse_X4_leastLevel win_X4_leastLevel hd_X4_leastLevel ⟨Nat.le_of_ble_eq_true rfl, Nat.le_of_ble_eq_true rfl⟩ (Nat.le_of_ble_eq_true rfl) rfl rfl rfl ?_
  refine V_istore_n (pc := 13) (ls2 := [.ref 0, .int u3, .null, .null, .null]) X (th_da dtX4_tight 7 rfl) (Nat.le_of_ble_eq_true rfl) rfl rfl ?_
  refine V_iconst (pc := 14) (v := (-1)) X (th_da dtX4_tight 8 rfl) (by decide) ?_
  refine V_istore_n (pc := 15) (ls2 := [.ref 0, .int u3, .int (-1), .null, .null]) X (th_da dtX4_tight 9 rfl) (Nat.le_of_ble_eq_true rfl) rfl rfl ?_
  refine V_iconst (pc := 16) (v := 0) X (th_da dtX4_tight 10 rfl) (by decide) ?_
  refine V_istore_n (pc := 17) (ls2 := [.ref 0, .int u3, .int (-1), .int 0, .null]) X (th_da dtX4_tight 11 rfl) (Nat.le_of_ble_eq_true rfl) rfl rfl ?_
  exact tX4_tight_c18 X _ _ _ _ _ hf
end
def fX4_enough_c35 : Nat → Int32 → Int32 → Int32 → th_H → Option (Int32 × th_H)
  | 0, _, _, _, _ => none
  | n + 1, y1, y2, y3, h =>
    if (1 < (y3 - y2) : Prop) then
      th_bd (fX4_othersBy y1 ((y2 + y3) / 2) h) fun u2 h2 =>
      if (u2 = 0 : Prop) then
        fX4_enough_c35 n y1 y2 ((y2 + y3) / 2) h2
      else
        fX4_enough_c35 n y1 ((y2 + y3) / 2) y3 h2
    else
      some (y3, h)
def fX4_enough (x1 : Int32) (h : th_H) : Option (Int32 × th_H) :=
  th_st (th_up h 0 0 0) fun h1 =>
  th_bd (fX4_isLink x1 h1) fun u2 h2 =>
  if (u2 = 0 : Prop) then
    some ((-1), h2)
  else
    th_bd (fX4_takeLevels h2) fun _u4 h4 =>
    th_bd (fX4_bound x1 h4) fun u5 h5 =>
    th_rd h5 2 643 ((3 : Int32) + x1) fun v6 =>
    fX4_enough_c35 1000 x1 (u5 - 1) v6 h5
def tbX4_enough : List (Nat × Instr × Nat) := [(0, .aload_n 0, 1), (1, .iconst 0, 1), (2, .putfield 55, 3), (5, .iload_n 1, 1), (6, .invokestatic 82, 3), (9, .ifCond .ne 5, 3), (12, .iconst (-1), 1), (13, .ireturn, 1), (14, .aload_n 0, 1), (15, .invokevirtual 254, 3), (18, .aload_n 0, 1), (19, .iload_n 1, 1), (20, .invokevirtual 79, 3), (23, .iconst 1, 1), (24, .isub, 1), (25, .istore_n 2, 1), (26, .aload_n 0, 1), (27, .getfield 15, 3), (30, .iconst 3, 1), (31, .iload_n 1, 1), (32, .iadd, 1), (33, .iaload, 1), (34, .istore_n 3, 1), (35, .iload_n 3, 1), (36, .iload_n 2, 1), (37, .isub, 1), (38, .iconst 1, 1), (39, .if_icmp .le 32, 3), (42, .iload_n 2, 1), (43, .iload_n 3, 1), (44, .iadd, 1), (45, .iconst 2, 1), (46, .idiv, 1), (47, .istore 4, 2), (49, .aload_n 0, 1), (50, .iload_n 1, 1), (51, .iload 4, 2), (53, .invokevirtual 257, 3), (56, .ifCond .ne 9, 3), (59, .iload 4, 2), (61, .istore_n 3, 1), (62, .goto 6, 3), (65, .iload 4, 2), (67, .istore_n 2, 1), (68, .goto (-33), 3), (71, .iload_n 3, 1), (72, .ireturn, 1)]
theorem dtX4_enough : th_dec cX4_enough tbX4_enough = true := by decide +kernel
section
variable {p0 : Program} {l : Launch} {e : Env} {s : State} {m : MethodId} {args : Array Value} {below : List Frame} {meth : Method} {c : Code} {D : va_G} {cI cZ : ClassId} {ad : Nat → Nat} {rr : Int32} {hh : th_H}
set_option maxHeartbeats 4000000 in
set_option maxRecDepth 100000 in
theorem tX4_enough_c35 (X : th_X p0 s m args meth c D cI cZ ad LM 5 RX4 cX4_enough (some .int)) : ∀ (n : Nat) (y1 : Int32) (y2 : Int32) (y3 : Int32) (h : th_H), fX4_enough_c35 n y1 y2 y3 h = some (rr, hh) → th_V p0 l e { frames := 6, cells := 0, slots := 0, locals := 140 } s m args below meth c D cI cZ ad LM 5 (some (.int rr)) hh 35 [.ref 0, .int y1, .int y2, .int y3, .null] [] h := by
  intro n
  induction n with
  | zero => intro y1 y2 y3 h hf; cases hf
  | succ n ih =>
    intro y1 y2 y3 h hf
    rw [fX4_enough_c35] at hf
    refine V_iload_n (pc := 35) X (th_da dtX4_enough 23 rfl) rfl ?_
    refine V_iload_n (pc := 36) X (th_da dtX4_enough 24 rfl) rfl ?_
    refine V_isub (pc := 37) X (th_da dtX4_enough 25 rfl) ?_
    refine V_iconst (pc := 38) (v := 1) X (th_da dtX4_enough 26 rfl) (by decide) ?_
    refine V_icmp_le (pc := 39) (tgt := 71) X (th_da dtX4_enough 27 rfl) (by decide) (fun c1 => ?_) (fun c1 => ?_)
    · rw [if_pos c1] at hf
      refine V_iload_n (pc := 42) X (th_da dtX4_enough 28 rfl) rfl ?_
      refine V_iload_n (pc := 43) X (th_da dtX4_enough 29 rfl) rfl ?_
      refine V_iadd (pc := 44) X (th_da dtX4_enough 30 rfl) ?_
      refine V_iconst (pc := 45) (v := 2) X (th_da dtX4_enough 31 rfl) (by decide) ?_
      refine V_idiv (pc := 46) X (th_da dtX4_enough 32 rfl) (by decide) ?_
      refine V_istore (pc := 47) (ls2 := [.ref 0, .int y1, .int y2, .int y3, .int ((y2 + y3) / 2)]) X (th_da dtX4_enough 33 rfl) (Nat.le_of_ble_eq_true rfl) rfl rfl ?_
      refine V_aload_n (pc := 49) X (th_da dtX4_enough 34 rfl) rfl ?_
      refine V_iload_n (pc := 50) X (th_da dtX4_enough 35 rfl) rfl ?_
      refine V_iload (pc := 51) X (th_da dtX4_enough 36 rfl) rfl ?_
      obtain ⟨u2, h2, e2, hf⟩ := th_bd_some hf
      refine V_callVi (pc := 53) (q := 0) (As := [.int y1, .int ((y2 + y3) / 2)]) X (th_da dtX4_enough 37 rfl) (mX4_othersBy l _ _ _ _ _ e2) wcd_X4_othersBy wml_X4_257 wim_X4_othersBy wse_X4_othersBy win_X4_othersBy hd_X4_othersBy ⟨Nat.le_of_ble_eq_true rfl, Nat.le_of_ble_eq_true rfl⟩ (Nat.le_of_ble_eq_true rfl) rfl rfl rfl ?_
      refine V_if_ne (pc := 56) (tgt := 65) X (th_da dtX4_enough 38 rfl) (by decide) (fun c3 => ?_) (fun c3 => ?_)
      · rw [if_pos c3] at hf
        refine V_iload (pc := 59) X (th_da dtX4_enough 39 rfl) rfl ?_
        refine V_istore_n (pc := 61) (ls2 := [.ref 0, .int y1, .int y2, .int ((y2 + y3) / 2), .int ((y2 + y3) / 2)]) X (th_da dtX4_enough 40 rfl) (Nat.le_of_ble_eq_true rfl) rfl rfl ?_
        refine V_goto (pc := 62) (tgt := 68) X (th_da dtX4_enough 41 rfl) (by decide) ?_
        refine V_goto (pc := 68) (tgt := 35) X (th_da dtX4_enough 44 rfl) (by decide) ?_
        refine V_mask [true, true, true, true, false] (ls2 := [.ref 0, .int y1, .int y2, .int ((y2 + y3) / 2), .null]) rfl ?_
        exact ih _ _ _ _ hf
      · rw [if_neg c3] at hf
        refine V_iload (pc := 65) X (th_da dtX4_enough 42 rfl) rfl ?_
        refine V_istore_n (pc := 67) (ls2 := [.ref 0, .int y1, .int ((y2 + y3) / 2), .int y3, .int ((y2 + y3) / 2)]) X (th_da dtX4_enough 43 rfl) (Nat.le_of_ble_eq_true rfl) rfl rfl ?_
        refine V_goto (pc := 68) (tgt := 35) X (th_da dtX4_enough 44 rfl) (by decide) ?_
        refine V_mask [true, true, true, true, false] (ls2 := [.ref 0, .int y1, .int ((y2 + y3) / 2), .int y3, .null]) rfl ?_
        exact ih _ _ _ _ hf
    · rw [if_neg c1] at hf
      refine V_iload_n (pc := 71) X (th_da dtX4_enough 45 rfl) rfl ?_
      exact V_iretF (pc := 72) X (th_da dtX4_enough 46 rfl) hf
set_option maxHeartbeats 4000000 in
set_option maxRecDepth 100000 in
theorem mX4_enough (l : Launch) (x1 : Int32) (h : th_H) (rr : Int32) (hh : th_H) (hf : fX4_enough x1 h = some (rr, hh)) : th_MI l LM yX4_enough cX4_enough 5 (some .int) 6 140 [.ref 0, .int x1] h (some (.int rr)) hh := by
  refine th_MI_of (ls := [.ref 0, .int x1, .null, .null, .null]) RX4 rfl rfl rfl (Nat.le_of_ble_eq_true rfl) ?_
  intro p0 e s m args below meth c D cI cZ ad X
  unfold fX4_enough at hf
  refine V_aload_n (pc := 0) X (th_da dtX4_enough 0 rfl) rfl ?_
  refine V_iconst (pc := 1) (v := 0) X (th_da dtX4_enough 1 rfl) (by decide) ?_
  obtain ⟨h1, e1, hf⟩ := th_st_some hf
  refine V_putI (pc := 2) (j := 0) (ty := .int) X (th_da dtX4_enough 2 rfl) wfl_X4_55 iX4 rfl rfl (Nat.le_of_ble_eq_true rfl) rfl tyX4 tyX4_ok nmX4 rfl (tyX4_ok 0 (Nat.le_of_ble_eq_true rfl)) rfl rfl e1 ?_
  refine V_iload_n (pc := 5) X (th_da dtX4_enough 3 rfl) rfl ?_
  obtain ⟨u2, h2, e2, hf⟩ := th_bd_some hf
  refine V_callSi (pc := 6) (As := [.int x1]) X (th_da dtX4_enough 4 rfl) (mX4_isLink l _ _ _ _ e2) wcd_X4_isLink wml_X4_82 wst_X4_isLink win_X4_isLink hd_X4_isLink ⟨Nat.le_of_ble_eq_true rfl, Nat.le_of_ble_eq_true rfl⟩ (Nat.le_of_ble_eq_true rfl) rfl ?_
  refine V_if_ne (pc := 9) (tgt := 14) X (th_da dtX4_enough 5 rfl) (by decide) (fun c3 => ?_) (fun c3 => ?_)
  · rw [if_pos c3] at hf
    refine V_iconst (pc := 12) (v := (-1)) X (th_da dtX4_enough 6 rfl) (by decide) ?_
    exact V_iretF (pc := 13) X (th_da dtX4_enough 7 rfl) hf
  · rw [if_neg c3] at hf
    refine V_aload_n (pc := 14) X (th_da dtX4_enough 8 rfl) rfl ?_
    obtain ⟨u4, h4, e4, hf⟩ := th_bd_some hf
    refine V_callVv (pc := 15) (q := 0) (As := []) X (th_da dtX4_enough 9 rfl) (mX4_takeLevels l _ _ _ e4) wcd_X4_takeLevels wml_X4_254 wim_X4_takeLevels wse_X4_takeLevels win_X4_takeLevels hd_X4_takeLevels ⟨Nat.le_of_ble_eq_true rfl, Nat.le_of_ble_eq_true rfl⟩ (Nat.le_of_ble_eq_true rfl) rfl rfl rfl ?_
    refine V_aload_n (pc := 18) X (th_da dtX4_enough 10 rfl) rfl ?_
    refine V_iload_n (pc := 19) X (th_da dtX4_enough 11 rfl) rfl ?_
    obtain ⟨u5, h5, e5, hf⟩ := th_bd_some hf
    refine V_callVi (pc := 20) (q := 0) (As := [.int x1]) X (th_da dtX4_enough 12 rfl) (mX4_bound l _ _ _ _ e5) wcd_X4_bound wml_X4_79 wim_X4_bound wse_X4_bound win_X4_bound hd_X4_bound ⟨Nat.le_of_ble_eq_true rfl, Nat.le_of_ble_eq_true rfl⟩ (Nat.le_of_ble_eq_true rfl) rfl rfl rfl ?_
    refine V_iconst (pc := 23) (v := 1) X (th_da dtX4_enough 13 rfl) (by decide) ?_
    refine V_isub (pc := 24) X (th_da dtX4_enough 14 rfl) ?_
    refine V_istore_n (pc := 25) (ls2 := [.ref 0, .int x1, .int (u5 - 1), .null, .null]) X (th_da dtX4_enough 15 rfl) (Nat.le_of_ble_eq_true rfl) rfl rfl ?_
    refine V_aload_n (pc := 26) X (th_da dtX4_enough 16 rfl) rfl ?_
    refine V_getR (pc := 27) (j := 2) (t := 2) X (th_da dtX4_enough 17 rfl) wfl_X4_15 iX4 rfl rfl (Nat.le_of_ble_eq_true rfl) rfl ?_
    refine V_iconst (pc := 30) (v := 3) X (th_da dtX4_enough 18 rfl) (by decide) ?_
    refine V_iload_n (pc := 31) X (th_da dtX4_enough 19 rfl) rfl ?_
    refine V_iadd (pc := 32) X (th_da dtX4_enough 20 rfl) ?_
    obtain ⟨v6, e6, g6, hf⟩ := th_rd_some hf
    refine V_iald (pc := 33) X (th_da dtX4_enough 21 rfl) rfl g6 e6 ?_
    refine V_istore_n (pc := 34) (ls2 := [.ref 0, .int x1, .int (u5 - 1), .int v6, .null]) X (th_da dtX4_enough 22 rfl) (Nat.le_of_ble_eq_true rfl) rfl rfl ?_
    exact tX4_enough_c35 X _ _ _ _ _ hf
end
def fX4_draw (h : th_H) : Option (Int32 × th_H) :=
  th_st (th_ul h (th_rml ((h.2 * 1103) + 12345) 1000003)) fun h1 =>
  some ((Int64.toInt32 h1.2), h1)
def tbX4_draw : List (Nat × Instr × Nat) := [(0, .aload_n 0, 1), (1, .aload_n 0, 1), (2, .getfield 260, 3), (5, .ldc2_w 264, 3), (8, .lmul, 1), (9, .ldc2_w 266, 3), (12, .ladd, 1), (13, .ldc2_w 268, 3), (16, .lrem, 1), (17, .putfield 260, 3), (20, .aload_n 0, 1), (21, .getfield 260, 3), (24, .l2i, 1), (25, .ireturn, 1)]
theorem dtX4_draw : th_dec cX4_draw tbX4_draw = true := by decide +kernel
section
variable {p0 : Program} {l : Launch} {e : Env} {s : State} {m : MethodId} {args : Array Value} {below : List Frame} {meth : Method} {c : Code} {D : va_G} {cI cZ : ClassId} {ad : Nat → Nat} {rr : Int32} {hh : th_H}
set_option maxHeartbeats 4000000 in
set_option maxRecDepth 100000 in
theorem mX4_draw (l : Launch) (h : th_H) (rr : Int32) (hh : th_H) (hf : fX4_draw h = some (rr, hh)) : th_MI l LM yX4_draw cX4_draw 1 (some .int) 0 0 [.ref 0] h (some (.int rr)) hh := by
  refine th_MI_of (ls := [.ref 0]) RX4 rfl rfl rfl (Nat.le_of_ble_eq_true rfl) ?_
  intro p0 e s m args below meth c D cI cZ ad X
  unfold fX4_draw at hf
  refine V_aload_n (pc := 0) X (th_da dtX4_draw 0 rfl) rfl ?_
  refine V_aload_n (pc := 1) X (th_da dtX4_draw 1 rfl) rfl ?_
  refine V_getL (pc := 2) (j := 17) X (th_da dtX4_draw 2 rfl) wfl_X4_260 iX4 rfl rfl (Nat.le_of_ble_eq_true rfl) rfl ?_
  refine V_ldc2 (pc := 5) (v := 1103) X (th_da dtX4_draw 3 rfl) wcl_X4_264 ?_
  refine V_lmul (pc := 8) X (th_da dtX4_draw 4 rfl) ?_
  refine V_ldc2 (pc := 9) (v := 12345) X (th_da dtX4_draw 5 rfl) wcl_X4_266 ?_
  refine V_ladd (pc := 12) X (th_da dtX4_draw 6 rfl) ?_
  refine V_ldc2 (pc := 13) (v := 1000003) X (th_da dtX4_draw 7 rfl) wcl_X4_268 ?_
  refine V_lrem (pc := 16) X (th_da dtX4_draw 8 rfl) (by decide) ?_
  obtain ⟨h1, e1, hf⟩ := th_st_some hf
  refine V_putL (pc := 17) (j := 17) X (th_da dtX4_draw 9 rfl) wfl_X4_260 iX4 rfl rfl (Nat.le_of_ble_eq_true rfl) rfl tyX4 tyX4_ok nmX4 rfl (tyX4_ok 17 (Nat.le_of_ble_eq_true rfl)) LM_one e1 ?_
  refine V_aload_n (pc := 20) X (th_da dtX4_draw 10 rfl) rfl ?_
  refine V_getL (pc := 21) (j := 17) X (th_da dtX4_draw 11 rfl) wfl_X4_260 iX4 rfl rfl (Nat.le_of_ble_eq_true rfl) rfl ?_
  refine V_l2i (pc := 24) X (th_da dtX4_draw 12 rfl) ?_
  exact V_iretF (pc := 25) X (th_da dtX4_draw 13 rfl) hf
end
def fX4_comesByChance (h : th_H) : Option (Unit × th_H) :=
  th_bd (fX4_draw h) fun u1 h1 =>
  th_bd (fX4_draw h1) fun u2 h2 =>
  th_bd (fX4_draw h2) fun u3 h3 =>
  th_bd (fX4_draw h3) fun u4 h4 =>
  th_bd (fX4_namedBy (th_rem u1 1000000) h4) fun u5 h5 =>
  if (u5 = (-1) : Prop) then
    th_bd (fX4_whyNot ((th_rem u2 1023) + 1) ((th_rem u3 9) + 1) 0 (th_rem u4 1000) h5) fun u7 h7 =>
    if (u7 = (-1) : Prop) then
      th_bd (fX4_freeNumber h7) fun u9 h9 =>
      th_bd (fX4_lay u9 (th_rem u1 1000000) ((th_rem u2 1023) + 1) ((th_rem u3 9) + 1) 0 (th_rem u4 1000) h9) fun _u10 h10 =>
      some ((), h10)
    else
      some ((), h7)
  else
    some ((), h5)
def tbX4_comesByChance : List (Nat × Instr × Nat) := [(0, .aload_n 0, 1), (1, .invokevirtual 270, 3), (4, .ldc 93, 2), (6, .irem, 1), (7, .istore_n 1, 1), (8, .aload_n 0, 1), (9, .invokevirtual 270, 3), (12, .sipush 1023, 3), (15, .irem, 1), (16, .iconst 1, 1), (17, .iadd, 1), (18, .istore_n 2, 1), (19, .aload_n 0, 1), (20, .invokevirtual 270, 3), (23, .bipush 9, 2), (25, .irem, 1), (26, .iconst 1, 1), (27, .iadd, 1), (28, .istore_n 3, 1), (29, .aload_n 0, 1), (30, .invokevirtual 270, 3), (33, .sipush 1000, 3), (36, .irem, 1), (37, .istore 4, 2), (39, .aload_n 0, 1), (40, .iload_n 1, 1), (41, .invokevirtual 118, 3), (44, .iconst (-1), 1), (45, .if_icmp .ne 30, 3), (48, .aload_n 0, 1), (49, .iload_n 2, 1), (50, .iload_n 3, 1), (51, .iconst 0, 1), (52, .iload 4, 2), (54, .invokevirtual 112, 3), (57, .iconst (-1), 1), (58, .if_icmp .ne 17, 3), (61, .aload_n 0, 1), (62, .aload_n 0, 1), (63, .invokevirtual 101, 3), (66, .iload_n 1, 1), (67, .iload_n 2, 1), (68, .iload_n 3, 1), (69, .iconst 0, 1), (70, .iload 4, 2), (72, .invokevirtual 121, 3), (75, .return_, 1)]
theorem dtX4_comesByChance : th_dec cX4_comesByChance tbX4_comesByChance = true := by decide +kernel
section
variable {p0 : Program} {l : Launch} {e : Env} {s : State} {m : MethodId} {args : Array Value} {below : List Frame} {meth : Method} {c : Code} {D : va_G} {cI cZ : ClassId} {ad : Nat → Nat} {rr : Unit} {hh : th_H}
set_option maxHeartbeats 4000000 in
set_option maxRecDepth 100000 in
theorem mX4_comesByChance (l : Launch) (h : th_H) (rr : Unit) (hh : th_H) (hf : fX4_comesByChance h = some (rr, hh)) : th_MI l LM yX4_comesByChance cX4_comesByChance 5 none 5 112 [.ref 0] h none hh := by
  refine th_MI_of (ls := [.ref 0, .null, .null, .null, .null]) RX4 rfl rfl rfl (Nat.le_of_ble_eq_true rfl) ?_
  intro p0 e s m args below meth c D cI cZ ad X
  unfold fX4_comesByChance at hf
  refine V_aload_n (pc := 0) X (th_da dtX4_comesByChance 0 rfl) rfl ?_
  obtain ⟨u1, h1, e1, hf⟩ := th_bd_some hf
  refine V_callVi (pc := 1) (q := 0) (As := []) X (th_da dtX4_comesByChance 1 rfl) (mX4_draw l _ _ _ e1) wcd_X4_draw wml_X4_270 wim_X4_draw wse_X4_draw win_X4_draw hd_X4_draw ⟨Nat.le_of_ble_eq_true rfl, Nat.le_of_ble_eq_true rfl⟩ (Nat.le_of_ble_eq_true rfl) rfl rfl rfl ?_
  refine V_ldc (pc := 4) (v := 1000000) X (th_da dtX4_comesByChance 2 rfl) wco_X4_93 ?_
  refine V_irem (pc := 6) X (th_da dtX4_comesByChance 3 rfl) (by decide) ?_
  refine V_istore_n (pc := 7) (ls2 := [.ref 0, .int (th_rem u1 1000000), .null, .null, .null]) X (th_da dtX4_comesByChance 4 rfl) (Nat.le_of_ble_eq_true rfl) rfl rfl ?_
  refine V_aload_n (pc := 8) X (th_da dtX4_comesByChance 5 rfl) rfl ?_
  obtain ⟨u2, h2, e2, hf⟩ := th_bd_some hf
  refine V_callVi (pc := 9) (q := 0) (As := []) X (th_da dtX4_comesByChance 6 rfl) (mX4_draw l _ _ _ e2) wcd_X4_draw wml_X4_270 wim_X4_draw wse_X4_draw win_X4_draw hd_X4_draw ⟨Nat.le_of_ble_eq_true rfl, Nat.le_of_ble_eq_true rfl⟩ (Nat.le_of_ble_eq_true rfl) rfl rfl rfl ?_
  refine V_sipush (pc := 12) (v := 1023) X (th_da dtX4_comesByChance 7 rfl) (by decide) ?_
  refine V_irem (pc := 15) X (th_da dtX4_comesByChance 8 rfl) (by decide) ?_
  refine V_iconst (pc := 16) (v := 1) X (th_da dtX4_comesByChance 9 rfl) (by decide) ?_
  refine V_iadd (pc := 17) X (th_da dtX4_comesByChance 10 rfl) ?_
  refine V_istore_n (pc := 18) (ls2 := [.ref 0, .int (th_rem u1 1000000), .int ((th_rem u2 1023) + 1), .null, .null]) X (th_da dtX4_comesByChance 11 rfl) (Nat.le_of_ble_eq_true rfl) rfl rfl ?_
  refine V_aload_n (pc := 19) X (th_da dtX4_comesByChance 12 rfl) rfl ?_
  obtain ⟨u3, h3, e3, hf⟩ := th_bd_some hf
  refine V_callVi (pc := 20) (q := 0) (As := []) X (th_da dtX4_comesByChance 13 rfl) (mX4_draw l _ _ _ e3) wcd_X4_draw wml_X4_270 wim_X4_draw wse_X4_draw win_X4_draw hd_X4_draw ⟨Nat.le_of_ble_eq_true rfl, Nat.le_of_ble_eq_true rfl⟩ (Nat.le_of_ble_eq_true rfl) rfl rfl rfl ?_
  refine V_bipush (pc := 23) (v := 9) X (th_da dtX4_comesByChance 14 rfl) (by decide) ?_
  refine V_irem (pc := 25) X (th_da dtX4_comesByChance 15 rfl) (by decide) ?_
  refine V_iconst (pc := 26) (v := 1) X (th_da dtX4_comesByChance 16 rfl) (by decide) ?_
  refine V_iadd (pc := 27) X (th_da dtX4_comesByChance 17 rfl) ?_
  refine V_istore_n (pc := 28) (ls2 := [.ref 0, .int (th_rem u1 1000000), .int ((th_rem u2 1023) + 1), .int ((th_rem u3 9) + 1), .null]) X (th_da dtX4_comesByChance 18 rfl) (Nat.le_of_ble_eq_true rfl) rfl rfl ?_
  refine V_aload_n (pc := 29) X (th_da dtX4_comesByChance 19 rfl) rfl ?_
  obtain ⟨u4, h4, e4, hf⟩ := th_bd_some hf
  refine V_callVi (pc := 30) (q := 0) (As := []) X (th_da dtX4_comesByChance 20 rfl) (mX4_draw l _ _ _ e4) wcd_X4_draw wml_X4_270 wim_X4_draw wse_X4_draw win_X4_draw hd_X4_draw ⟨Nat.le_of_ble_eq_true rfl, Nat.le_of_ble_eq_true rfl⟩ (Nat.le_of_ble_eq_true rfl) rfl rfl rfl ?_
  refine V_sipush (pc := 33) (v := 1000) X (th_da dtX4_comesByChance 21 rfl) (by decide) ?_
  refine V_irem (pc := 36) X (th_da dtX4_comesByChance 22 rfl) (by decide) ?_
  refine V_istore (pc := 37) (ls2 := [.ref 0, .int (th_rem u1 1000000), .int ((th_rem u2 1023) + 1), .int ((th_rem u3 9) + 1), .int (th_rem u4 1000)]) X (th_da dtX4_comesByChance 23 rfl) (Nat.le_of_ble_eq_true rfl) rfl rfl ?_
  refine V_aload_n (pc := 39) X (th_da dtX4_comesByChance 24 rfl) rfl ?_
  refine V_iload_n (pc := 40) X (th_da dtX4_comesByChance 25 rfl) rfl ?_
  obtain ⟨u5, h5, e5, hf⟩ := th_bd_some hf
  refine V_callVi (pc := 41) (q := 0) (As := [.int (th_rem u1 1000000)]) X (th_da dtX4_comesByChance 26 rfl) (mX4_namedBy l _ _ _ _ e5) wcd_X4_namedBy wml_X4_118 wim_X4_namedBy wse_X4_namedBy win_X4_namedBy hd_X4_namedBy ⟨Nat.le_of_ble_eq_true rfl, Nat.le_of_ble_eq_true rfl⟩ (Nat.le_of_ble_eq_true rfl) rfl rfl rfl ?_
  refine V_iconst (pc := 44) (v := (-1)) X (th_da dtX4_comesByChance 27 rfl) (by decide) ?_
  refine V_icmp_ne (pc := 45) (tgt := 75) X (th_da dtX4_comesByChance 28 rfl) (by decide) (fun c6 => ?_) (fun c6 => ?_)
  · rw [if_pos c6] at hf
    refine V_aload_n (pc := 48) X (th_da dtX4_comesByChance 29 rfl) rfl ?_
    refine V_iload_n (pc := 49) X (th_da dtX4_comesByChance 30 rfl) rfl ?_
    refine V_iload_n (pc := 50) X (th_da dtX4_comesByChance 31 rfl) rfl ?_
    refine V_iconst (pc := 51) (v := 0) X (th_da dtX4_comesByChance 32 rfl) (by decide) ?_
    refine V_iload (pc := 52) X (th_da dtX4_comesByChance 33 rfl) rfl ?_
    obtain ⟨u7, h7, e7, hf⟩ := th_bd_some hf
    refine V_callVi (pc := 54) (q := 0) (As := [.int ((th_rem u2 1023) + 1), .int ((th_rem u3 9) + 1), .int 0, .int (th_rem u4 1000)]) X (th_da dtX4_comesByChance 34 rfl) (mX4_whyNot l _ _ _ _ _ _ _ e7) wcd_X4_whyNot wml_X4_112 wim_X4_whyNot wse_X4_whyNot win_X4_whyNot hd_X4_whyNot ⟨Nat.le_of_ble_eq_true rfl, Nat.le_of_ble_eq_true rfl⟩ (Nat.le_of_ble_eq_true rfl) rfl rfl rfl ?_
    refine V_iconst (pc := 57) (v := (-1)) X (th_da dtX4_comesByChance 35 rfl) (by decide) ?_
    refine V_icmp_ne (pc := 58) (tgt := 75) X (th_da dtX4_comesByChance 36 rfl) (by decide) (fun c8 => ?_) (fun c8 => ?_)
    · rw [if_pos c8] at hf
      refine V_aload_n (pc := 61) X (th_da dtX4_comesByChance 37 rfl) rfl ?_
      refine V_aload_n (pc := 62) X (th_da dtX4_comesByChance 38 rfl) rfl ?_
      obtain ⟨u9, h9, e9, hf⟩ := th_bd_some hf
      refine V_callVi (pc := 63) (q := 0) (As := []) X (th_da dtX4_comesByChance 39 rfl) (mX4_freeNumber l _ _ _ e9) wcd_X4_freeNumber wml_X4_101 wim_X4_freeNumber wse_X4_freeNumber win_X4_freeNumber hd_X4_freeNumber ⟨Nat.le_of_ble_eq_true rfl, Nat.le_of_ble_eq_true rfl⟩ (Nat.le_of_ble_eq_true rfl) rfl rfl rfl ?_
      refine V_iload_n (pc := 66) X (th_da dtX4_comesByChance 40 rfl) rfl ?_
      refine V_iload_n (pc := 67) X (th_da dtX4_comesByChance 41 rfl) rfl ?_
      refine V_iload_n (pc := 68) X (th_da dtX4_comesByChance 42 rfl) rfl ?_
      refine V_iconst (pc := 69) (v := 0) X (th_da dtX4_comesByChance 43 rfl) (by decide) ?_
      refine V_iload (pc := 70) X (th_da dtX4_comesByChance 44 rfl) rfl ?_
      obtain ⟨u10, h10, e10, hf⟩ := th_bd_some hf
      refine V_callVv (pc := 72) (q := 0) (As := [.int u9, .int (th_rem u1 1000000), .int ((th_rem u2 1023) + 1), .int ((th_rem u3 9) + 1), .int 0, .int (th_rem u4 1000)]) X (th_da dtX4_comesByChance 45 rfl) (mX4_lay l _ _ _ _ _ _ _ _ _ e10) wcd_X4_lay wml_X4_121 wim_X4_lay wse_X4_lay win_X4_lay hd_X4_lay ⟨Nat.le_of_ble_eq_true rfl, Nat.le_of_ble_eq_true rfl⟩ (Nat.le_of_ble_eq_true rfl) rfl rfl rfl ?_
      exact V_vretF (pc := 75) X (th_da dtX4_comesByChance 46 rfl) hf
    · rw [if_neg c8] at hf
      exact V_vretF (pc := 75) X (th_da dtX4_comesByChance 46 rfl) hf
  · rw [if_neg c6] at hf
    exact V_vretF (pc := 75) X (th_da dtX4_comesByChance 46 rfl) hf
end
def fX4_goesByChance_c19 : Nat → Int32 → Int32 → th_H → Option (Unit × th_H)
  | 0, _, _, _ => none
  | n + 1, y2, y3, h =>
    if (y3 < 20 : Prop) then
      th_bd (fX4_isFlow y3 h) fun u2 h2 =>
      if (u2 = 0 : Prop) then
        fX4_goesByChance_c19 n y2 (y3 + 1) h2
      else
        if (y2 = 0 : Prop) then
          th_bd (fX4_at y3 h2) fun u5 h5 =>
          th_wr h5 2 643 u5 0 fun h6 =>
          fX4_goesByChance_c19 n (y2 + (-1)) (y3 + 1) h6
        else
          fX4_goesByChance_c19 n (y2 + (-1)) (y3 + 1) h2
    else
      some ((), h)
def fX4_goesByChance (h : th_H) : Option (Unit × th_H) :=
  th_bd (fX4_flowMany h) fun u1 h1 =>
  if (u1 = 0 : Prop) then
    some ((), h1)
  else
    th_bd (fX4_draw h1) fun u3 h3 =>
    th_dv u1 <|
    fX4_goesByChance_c19 1000 (th_rem u3 u1) 0 h3
def tbX4_goesByChance : List (Nat × Instr × Nat) := [(0, .aload_n 0, 1), (1, .invokevirtual 128, 3), (4, .istore_n 1, 1), (5, .iload_n 1, 1), (6, .ifCond .ne 4, 3), (9, .return_, 1), (10, .aload_n 0, 1), (11, .invokevirtual 270, 3), (14, .iload_n 1, 1), (15, .irem, 1), (16, .istore_n 2, 1), (17, .iconst 0, 1), (18, .istore_n 3, 1), (19, .iload_n 3, 1), (20, .bipush 20, 2), (22, .if_icmp .ge 34, 3), (25, .aload_n 0, 1), (26, .iload_n 3, 1), (27, .invokevirtual 125, 3), (30, .ifCond .eq 20, 3), (33, .iload_n 2, 1), (34, .ifCond .ne 13, 3), (37, .aload_n 0, 1), (38, .getfield 15, 3), (41, .iload_n 3, 1), (42, .invokestatic 71, 3), (45, .iconst 0, 1), (46, .iastore, 1), (47, .iinc 2 (-1), 3), (50, .iinc 3 1, 3), (53, .goto (-34), 3), (56, .return_, 1)]
theorem dtX4_goesByChance : th_dec cX4_goesByChance tbX4_goesByChance = true := by decide +kernel
section
variable {p0 : Program} {l : Launch} {e : Env} {s : State} {m : MethodId} {args : Array Value} {below : List Frame} {meth : Method} {c : Code} {D : va_G} {cI cZ : ClassId} {ad : Nat → Nat} {rr : Unit} {hh : th_H}
set_option maxHeartbeats 4000000 in
set_option maxRecDepth 100000 in
theorem tX4_goesByChance_c19 (X : th_X p0 s m args meth c D cI cZ ad LM 4 RX4 cX4_goesByChance none) : ∀ (n : Nat) (y2 : Int32) (y3 : Int32) (h : th_H), fX4_goesByChance_c19 n y2 y3 h = some (rr, hh) → th_V p0 l e { frames := 2, cells := 0, slots := 0, locals := 46 } s m args below meth c D cI cZ ad LM 4 none hh 19 [.ref 0, .null, .int y2, .int y3] [] h := by
  intro n
  induction n with
  | zero => intro y2 y3 h hf; cases hf
  | succ n ih =>
    intro y2 y3 h hf
    rw [fX4_goesByChance_c19] at hf
    refine V_iload_n (pc := 19) X (th_da dtX4_goesByChance 13 rfl) rfl ?_
    refine V_bipush (pc := 20) (v := 20) X (th_da dtX4_goesByChance 14 rfl) (by decide) ?_
    refine V_icmp_ge (pc := 22) (tgt := 56) X (th_da dtX4_goesByChance 15 rfl) (by decide) (fun c1 => ?_) (fun c1 => ?_)
    · rw [if_pos c1] at hf
      refine V_aload_n (pc := 25) X (th_da dtX4_goesByChance 16 rfl) rfl ?_
      refine V_iload_n (pc := 26) X (th_da dtX4_goesByChance 17 rfl) rfl ?_
      obtain ⟨u2, h2, e2, hf⟩ := th_bd_some hf
      refine V_callVi (pc := 27) (q := 0) (As := [.int y3]) X (th_da dtX4_goesByChance 18 rfl) (mX4_isFlow l _ _ _ _ e2) wcd_X4_isFlow wml_X4_125 wim_X4_isFlow wse_X4_isFlow win_X4_isFlow hd_X4_isFlow ⟨Nat.le_of_ble_eq_true rfl, Nat.le_of_ble_eq_true rfl⟩ (Nat.le_of_ble_eq_true rfl) rfl rfl rfl ?_
      refine V_if_eq (pc := 30) (tgt := 50) X (th_da dtX4_goesByChance 19 rfl) (by decide) (fun c3 => ?_) (fun c3 => ?_)
      · rw [if_pos c3] at hf
        refine V_iinc (pc := 50) (v := y3 + 1) (ls2 := [.ref 0, .null, .int y2, .int (y3 + 1)]) X (th_da dtX4_goesByChance 29 rfl) rfl rfl (Nat.le_of_ble_eq_true rfl) rfl rfl ?_
        refine V_goto (pc := 53) (tgt := 19) X (th_da dtX4_goesByChance 30 rfl) (by decide) ?_
        exact ih _ _ _ hf
      · rw [if_neg c3] at hf
        refine V_iload_n (pc := 33) X (th_da dtX4_goesByChance 20 rfl) rfl ?_
        refine V_if_ne (pc := 34) (tgt := 47) X (th_da dtX4_goesByChance 21 rfl) (by decide) (fun c4 => ?_) (fun c4 => ?_)
        · rw [if_pos c4] at hf
          refine V_aload_n (pc := 37) X (th_da dtX4_goesByChance 22 rfl) rfl ?_
          refine V_getR (pc := 38) (j := 2) (t := 2) X (th_da dtX4_goesByChance 23 rfl) wfl_X4_15 iX4 rfl rfl (Nat.le_of_ble_eq_true rfl) rfl ?_
          refine V_iload_n (pc := 41) X (th_da dtX4_goesByChance 24 rfl) rfl ?_
          obtain ⟨u5, h5, e5, hf⟩ := th_bd_some hf
          refine V_callSi (pc := 42) (As := [.int y3]) X (th_da dtX4_goesByChance 25 rfl) (mX4_at l _ _ _ _ e5) wcd_X4_at wml_X4_71 wst_X4_at win_X4_at hd_X4_at ⟨Nat.le_of_ble_eq_true rfl, Nat.le_of_ble_eq_true rfl⟩ (Nat.le_of_ble_eq_true rfl) rfl ?_
          refine V_iconst (pc := 45) (v := 0) X (th_da dtX4_goesByChance 26 rfl) (by decide) ?_
          obtain ⟨h6, e6, g6, hf⟩ := th_wr_some hf
          refine V_iast (pc := 46) X (th_da dtX4_goesByChance 27 rfl) rfl g6 e6 ?_
          refine V_iinc (pc := 47) (v := y2 + (-1)) (ls2 := [.ref 0, .null, .int (y2 + (-1)), .int y3]) X (th_da dtX4_goesByChance 28 rfl) rfl rfl (Nat.le_of_ble_eq_true rfl) rfl rfl ?_
          refine V_iinc (pc := 50) (v := y3 + 1) (ls2 := [.ref 0, .null, .int (y2 + (-1)), .int (y3 + 1)]) X (th_da dtX4_goesByChance 29 rfl) rfl rfl (Nat.le_of_ble_eq_true rfl) rfl rfl ?_
          refine V_goto (pc := 53) (tgt := 19) X (th_da dtX4_goesByChance 30 rfl) (by decide) ?_
          exact ih _ _ _ hf
        · rw [if_neg c4] at hf
          refine V_iinc (pc := 47) (v := y2 + (-1)) (ls2 := [.ref 0, .null, .int (y2 + (-1)), .int y3]) X (th_da dtX4_goesByChance 28 rfl) rfl rfl (Nat.le_of_ble_eq_true rfl) rfl rfl ?_
          refine V_iinc (pc := 50) (v := y3 + 1) (ls2 := [.ref 0, .null, .int (y2 + (-1)), .int (y3 + 1)]) X (th_da dtX4_goesByChance 29 rfl) rfl rfl (Nat.le_of_ble_eq_true rfl) rfl rfl ?_
          refine V_goto (pc := 53) (tgt := 19) X (th_da dtX4_goesByChance 30 rfl) (by decide) ?_
          exact ih _ _ _ hf
    · rw [if_neg c1] at hf
      exact V_vretF (pc := 56) X (th_da dtX4_goesByChance 31 rfl) hf
set_option maxHeartbeats 4000000 in
set_option maxRecDepth 100000 in
theorem mX4_goesByChance (l : Launch) (h : th_H) (rr : Unit) (hh : th_H) (hf : fX4_goesByChance h = some (rr, hh)) : th_MI l LM yX4_goesByChance cX4_goesByChance 4 none 2 46 [.ref 0] h none hh := by
  refine th_MI_of (ls := [.ref 0, .null, .null, .null]) RX4 rfl rfl rfl (Nat.le_of_ble_eq_true rfl) ?_
  intro p0 e s m args below meth c D cI cZ ad X
  unfold fX4_goesByChance at hf
  refine V_aload_n (pc := 0) X (th_da dtX4_goesByChance 0 rfl) rfl ?_
  obtain ⟨u1, h1, e1, hf⟩ := th_bd_some hf
  refine V_callVi (pc := 1) (q := 0) (As := []) X (th_da dtX4_goesByChance 1 rfl) (mX4_flowMany l _ _ _ e1) wcd_X4_flowMany wml_X4_128 wim_X4_flowMany wse_X4_flowMany win_X4_flowMany hd_X4_flowMany ⟨Nat.le_of_ble_eq_true rfl, Nat.le_of_ble_eq_true rfl⟩ (Nat.le_of_ble_eq_true rfl) rfl rfl rfl ?_
  refine V_istore_n (pc := 4) (ls2 := [.ref 0, .int u1, .null, .null]) X (th_da dtX4_goesByChance 2 rfl) (Nat.le_of_ble_eq_true rfl) rfl rfl ?_
  refine V_iload_n (pc := 5) X (th_da dtX4_goesByChance 3 rfl) rfl ?_
  refine V_if_ne (pc := 6) (tgt := 10) X (th_da dtX4_goesByChance 4 rfl) (by decide) (fun c2 => ?_) (fun c2 => ?_)
  · rw [if_pos c2] at hf
    exact V_vretF (pc := 9) X (th_da dtX4_goesByChance 5 rfl) hf
  · rw [if_neg c2] at hf
    refine V_aload_n (pc := 10) X (th_da dtX4_goesByChance 6 rfl) rfl ?_
    obtain ⟨u3, h3, e3, hf⟩ := th_bd_some hf
    refine V_callVi (pc := 11) (q := 0) (As := []) X (th_da dtX4_goesByChance 7 rfl) (mX4_draw l _ _ _ e3) wcd_X4_draw wml_X4_270 wim_X4_draw wse_X4_draw win_X4_draw hd_X4_draw ⟨Nat.le_of_ble_eq_true rfl, Nat.le_of_ble_eq_true rfl⟩ (Nat.le_of_ble_eq_true rfl) rfl rfl rfl ?_
    refine V_iload_n (pc := 14) X (th_da dtX4_goesByChance 8 rfl) rfl ?_
    obtain ⟨g4, hf⟩ := th_dv_some hf
    refine V_irem (pc := 15) X (th_da dtX4_goesByChance 9 rfl) g4 ?_
    refine V_istore_n (pc := 16) (ls2 := [.ref 0, .int u1, .int (th_rem u3 u1), .null]) X (th_da dtX4_goesByChance 10 rfl) (Nat.le_of_ble_eq_true rfl) rfl rfl ?_
    refine V_iconst (pc := 17) (v := 0) X (th_da dtX4_goesByChance 11 rfl) (by decide) ?_
    refine V_istore_n (pc := 18) (ls2 := [.ref 0, .int u1, .int (th_rem u3 u1), .int 0]) X (th_da dtX4_goesByChance 12 rfl) (Nat.le_of_ble_eq_true rfl) rfl rfl ?_
    refine V_mask [true, false, true, true] (ls2 := [.ref 0, .null, .int (th_rem u3 u1), .int 0]) rfl ?_
    exact tX4_goesByChance_c19 X _ _ _ _ hf
end
def fX4_storm_c112 (k62 : Int32 → Int32 → Int32 → Int32 → Int32 → th_H → Option (Int32 × th_H)) (y2 : Int32) (y3 : Int32) (y5 : Int32) (y6 : Int32) (z0 : Int32) (z1 : Int32) (h : th_H) : Option (Int32 × th_H) :=
  th_bd (fX4_overbooked h) fun u1 h1 =>
  if (u1 = 0 : Prop) then
    k62 y2 y3 (z0 + z1) (y5 + 0) (y6 + 1) h1
  else
    k62 y2 y3 (z0 + z1) (y5 + 1) (y6 + 1) h1
def fX4_storm_c98 (k62 : Int32 → Int32 → Int32 → Int32 → Int32 → th_H → Option (Int32 × th_H)) (y2 : Int32) (y3 : Int32) (y4 : Int32) (y5 : Int32) (y6 : Int32) (h : th_H) : Option (Int32 × th_H) :=
  th_bd (fX4_round h) fun u1 h1 =>
  if (u1 = 0 : Prop) then
    fX4_storm_c112 k62 y2 y3 y5 y6 y4 0 h1
  else
    fX4_storm_c112 k62 y2 y3 y5 y6 y4 1 h1
def fX4_storm_c62 : Nat → Int32 → Int32 → Int32 → Int32 → Int32 → th_H → Option (Int32 × th_H)
  | 0, _, _, _, _, _, _ => none
  | n + 1, y2, y3, y4, y5, y6, h =>
    if (y6 < y2 : Prop) then
      th_bd (fX4_draw h) fun u2 h2 =>
      if ((th_rem u2 4) = 0 : Prop) then
        th_bd (fX4_comesByChance h2) fun _u4 h4 =>
        fX4_storm_c98 (fX4_storm_c62 n) y2 y3 y4 y5 y6 h4
      else
        if ((th_rem u2 4) = 1 : Prop) then
          th_bd (fX4_goesByChance h2) fun _u6 h6 =>
          fX4_storm_c98 (fX4_storm_c62 n) y2 y3 y4 y5 y6 h6
        else
          fX4_storm_c98 (fX4_storm_c62 n) y2 y3 y4 y5 y6 h2
    else
      th_bd (fX4_flowMany h) fun u7 h7 =>
      th_bd (fX4_endThought h7) fun _u8 h8 =>
      if (y3 = 0 : Prop) then
        some (y4, h8)
      else
        if (y3 = 1 : Prop) then
          some (y5, h8)
        else
          some (u7, h8)
def fX4_storm (x1 : Int32) (x2 : Int32) (x3 : Int32) (h : th_H) : Option (Int32 × th_H) :=
  th_st (th_up h 0 0 0) fun h1 =>
  th_bd (fX4_in (Int32.toInt64 x1) 0 999999 h1) fun u2 h2 =>
  if (u2 = 0 : Prop) then
    some ((-1), h2)
  else
    th_bd (fX4_in (Int32.toInt64 x2) 1 40 h2) fun u4 h4 =>
    if (u4 = 0 : Prop) then
      some ((-1), h4)
    else
      th_bd (fX4_in (Int32.toInt64 x3) 0 2 h4) fun u6 h6 =>
      if (u6 = 0 : Prop) then
        some ((-1), h6)
      else
        th_bd (fX4_think h6) fun _u8 h8 =>
        th_st (th_ul h8 (Int32.toInt64 x1)) fun h9 =>
        fX4_storm_c62 1000 x2 x3 0 0 0 h9
def tbX4_storm : List (Nat × Instr × Nat) := [(0, .aload_n 0, 1), (1, .iconst 0, 1), (2, .putfield 55, 3), (5, .iload_n 1, 1), (6, .i2l, 1), (7, .lconst 0, 1), (8, .ldc2_w 116, 3), (11, .invokestatic 63, 3), (14, .ifCond .eq 27, 3), (17, .iload_n 2, 1), (18, .i2l, 1), (19, .lconst 1, 1), (20, .ldc2_w 273, 3), (23, .invokestatic 63, 3), (26, .ifCond .eq 15, 3), (29, .iload_n 3, 1), (30, .i2l, 1), (31, .lconst 0, 1), (32, .ldc2_w 131, 3), (35, .invokestatic 63, 3), (38, .ifCond .ne 5, 3), (41, .iconst (-1), 1), (42, .ireturn, 1), (43, .aload_n 0, 1), (44, .invokevirtual 245, 3), (47, .aload_n 0, 1), (48, .iload_n 1, 1), (49, .i2l, 1), (50, .putfield 260, 3), (53, .iconst 0, 1), (54, .istore 4, 2), (56, .iconst 0, 1), (57, .istore 5, 2), (59, .iconst 0, 1), (60, .istore 6, 2), (62, .iload 6, 2), (64, .iload_n 2, 1), (65, .if_icmp .ge 73, 3), (68, .aload_n 0, 1), (69, .invokevirtual 270, 3), (72, .iconst 4, 1), (73, .irem, 1), (74, .istore 7, 2), (76, .iload 7, 2), (78, .ifCond .ne 10, 3), (81, .aload_n 0, 1), (82, .invokevirtual 275, 3), (85, .goto 13, 3), (88, .iload 7, 2), (90, .iconst 1, 1), (91, .if_icmp .ne 7, 3), (94, .aload_n 0, 1), (95, .invokevirtual 278, 3), (98, .iload 4, 2), (100, .aload_n 0, 1), (101, .invokevirtual 181, 3), (104, .ifCond .eq 7, 3), (107, .iconst 1, 1), (108, .goto 4, 3), (111, .iconst 0, 1), (112, .iadd, 1), (113, .istore 4, 2), (115, .iload 5, 2), (117, .aload_n 0, 1), (118, .invokevirtual 242, 3), (121, .ifCond .eq 7, 3), (124, .iconst 1, 1), (125, .goto 4, 3), (128, .iconst 0, 1), (129, .iadd, 1), (130, .istore 5, 2), (132, .iinc 6 1, 3), (135, .goto (-73), 3), (138, .aload_n 0, 1), (139, .invokevirtual 128, 3), (142, .istore 6, 2), (144, .aload_n 0, 1), (145, .invokevirtual 248, 3), (148, .iload_n 3, 1), (149, .ifCond .ne 8, 3), (152, .iload 4, 2), (154, .goto 15, 3), (157, .iload_n 3, 1), (158, .iconst 1, 1), (159, .if_icmp .ne 8, 3), (162, .iload 5, 2), (164, .goto 5, 3), (167, .iload 6, 2), (169, .ireturn, 1)]
theorem dtX4_storm : th_dec cX4_storm tbX4_storm = true := by decide +kernel
section
variable {p0 : Program} {l : Launch} {e : Env} {s : State} {m : MethodId} {args : Array Value} {below : List Frame} {meth : Method} {c : Code} {D : va_G} {cI cZ : ClassId} {ad : Nat → Nat} {rr : Int32} {hh : th_H}
set_option maxHeartbeats 4000000 in
set_option maxRecDepth 100000 in
theorem tX4_storm_c112 (X : th_X p0 s m args meth c D cI cZ ad LM 8 RX4 cX4_storm (some .int)) (k62 : Int32 → Int32 → Int32 → Int32 → Int32 → th_H → Option (Int32 × th_H)) (hk62 : ∀ (y2 : Int32) (y3 : Int32) (y4 : Int32) (y5 : Int32) (y6 : Int32) (h : th_H), k62 y2 y3 y4 y5 y6 h = some (rr, hh) → th_V p0 l e { frames := 7, cells := 0, slots := 0, locals := 160 } s m args below meth c D cI cZ ad LM 8 (some (.int rr)) hh 62 [.ref 0, .null, .int y2, .int y3, .int y4, .int y5, .int y6, .null] [] h) (y2 : Int32) (y3 : Int32) (y5 : Int32) (y6 : Int32) (z0 : Int32) (z1 : Int32) (h : th_H) (hf : fX4_storm_c112 k62 y2 y3 y5 y6 z0 z1 h = some (rr, hh)) : th_V p0 l e { frames := 7, cells := 0, slots := 0, locals := 160 } s m args below meth c D cI cZ ad LM 8 (some (.int rr)) hh 112 [.ref 0, .null, .int y2, .int y3, .null, .int y5, .int y6, .null] [.int z1, .int z0] h := by
  unfold fX4_storm_c112 at hf
  refine V_iadd (pc := 112) X (th_da dtX4_storm 60 rfl) ?_
  refine V_istore (pc := 113) (ls2 := [.ref 0, .null, .int y2, .int y3, .int (z0 + z1), .int y5, .int y6, .null]) X (th_da dtX4_storm 61 rfl) (Nat.le_of_ble_eq_true rfl) rfl rfl ?_
  refine V_iload (pc := 115) X (th_da dtX4_storm 62 rfl) rfl ?_
  refine V_aload_n (pc := 117) X (th_da dtX4_storm 63 rfl) rfl ?_
  obtain ⟨u1, h1, e1, hf⟩ := th_bd_some hf
  refine V_callVi (pc := 118) (q := 0) (As := []) X (th_da dtX4_storm 64 rfl) (mX4_overbooked l _ _ _ e1) wcd_X4_overbooked wml_X4_242 wim_X4_overbooked wse_X4_overbooked win_X4_overbooked hd_X4_overbooked ⟨Nat.le_of_ble_eq_true rfl, Nat.le_of_ble_eq_true rfl⟩ (Nat.le_of_ble_eq_true rfl) rfl rfl rfl ?_
  refine V_if_eq (pc := 121) (tgt := 128) X (th_da dtX4_storm 65 rfl) (by decide) (fun c2 => ?_) (fun c2 => ?_)
  · rw [if_pos c2] at hf
    refine V_iconst (pc := 128) (v := 0) X (th_da dtX4_storm 68 rfl) (by decide) ?_
    refine V_iadd (pc := 129) X (th_da dtX4_storm 69 rfl) ?_
    refine V_istore (pc := 130) (ls2 := [.ref 0, .null, .int y2, .int y3, .int (z0 + z1), .int (y5 + 0), .int y6, .null]) X (th_da dtX4_storm 70 rfl) (Nat.le_of_ble_eq_true rfl) rfl rfl ?_
    refine V_iinc (pc := 132) (v := y6 + 1) (ls2 := [.ref 0, .null, .int y2, .int y3, .int (z0 + z1), .int (y5 + 0), .int (y6 + 1), .null]) X (th_da dtX4_storm 71 rfl) rfl rfl (Nat.le_of_ble_eq_true rfl) rfl rfl ?_
    refine V_goto (pc := 135) (tgt := 62) X (th_da dtX4_storm 72 rfl) (by decide) ?_
    exact hk62 _ _ _ _ _ _ hf
  · rw [if_neg c2] at hf
    refine V_iconst (pc := 124) (v := 1) X (th_da dtX4_storm 66 rfl) (by decide) ?_
    refine V_goto (pc := 125) (tgt := 129) X (th_da dtX4_storm 67 rfl) (by decide) ?_
    refine V_iadd (pc := 129) X (th_da dtX4_storm 69 rfl) ?_
    refine V_istore (pc := 130) (ls2 := [.ref 0, .null, .int y2, .int y3, .int (z0 + z1), .int (y5 + 1), .int y6, .null]) X (th_da dtX4_storm 70 rfl) (Nat.le_of_ble_eq_true rfl) rfl rfl ?_
    refine V_iinc (pc := 132) (v := y6 + 1) (ls2 := [.ref 0, .null, .int y2, .int y3, .int (z0 + z1), .int (y5 + 1), .int (y6 + 1), .null]) X (th_da dtX4_storm 71 rfl) rfl rfl (Nat.le_of_ble_eq_true rfl) rfl rfl ?_
    refine V_goto (pc := 135) (tgt := 62) X (th_da dtX4_storm 72 rfl) (by decide) ?_
    exact hk62 _ _ _ _ _ _ hf
set_option maxHeartbeats 4000000 in
set_option maxRecDepth 100000 in
theorem tX4_storm_c98 (X : th_X p0 s m args meth c D cI cZ ad LM 8 RX4 cX4_storm (some .int)) (k62 : Int32 → Int32 → Int32 → Int32 → Int32 → th_H → Option (Int32 × th_H)) (hk62 : ∀ (y2 : Int32) (y3 : Int32) (y4 : Int32) (y5 : Int32) (y6 : Int32) (h : th_H), k62 y2 y3 y4 y5 y6 h = some (rr, hh) → th_V p0 l e { frames := 7, cells := 0, slots := 0, locals := 160 } s m args below meth c D cI cZ ad LM 8 (some (.int rr)) hh 62 [.ref 0, .null, .int y2, .int y3, .int y4, .int y5, .int y6, .null] [] h) (y2 : Int32) (y3 : Int32) (y4 : Int32) (y5 : Int32) (y6 : Int32) (h : th_H) (hf : fX4_storm_c98 k62 y2 y3 y4 y5 y6 h = some (rr, hh)) : th_V p0 l e { frames := 7, cells := 0, slots := 0, locals := 160 } s m args below meth c D cI cZ ad LM 8 (some (.int rr)) hh 98 [.ref 0, .null, .int y2, .int y3, .int y4, .int y5, .int y6, .null] [] h := by
  unfold fX4_storm_c98 at hf
  refine V_iload (pc := 98) X (th_da dtX4_storm 53 rfl) rfl ?_
  refine V_aload_n (pc := 100) X (th_da dtX4_storm 54 rfl) rfl ?_
  obtain ⟨u1, h1, e1, hf⟩ := th_bd_some hf
  refine V_callVi (pc := 101) (q := 0) (As := []) X (th_da dtX4_storm 55 rfl) (mX4_round l _ _ _ e1) wcd_X4_round wml_X4_181 wim_X4_round wse_X4_round win_X4_round hd_X4_round ⟨Nat.le_of_ble_eq_true rfl, Nat.le_of_ble_eq_true rfl⟩ (Nat.le_of_ble_eq_true rfl) rfl rfl rfl ?_
  refine V_if_eq (pc := 104) (tgt := 111) X (th_da dtX4_storm 56 rfl) (by decide) (fun c2 => ?_) (fun c2 => ?_)
  · rw [if_pos c2] at hf
    refine V_iconst (pc := 111) (v := 0) X (th_da dtX4_storm 59 rfl) (by decide) ?_
    refine V_mask [true, false, true, true, false, true, true, false] (ls2 := [.ref 0, .null, .int y2, .int y3, .null, .int y5, .int y6, .null]) rfl ?_
    exact tX4_storm_c112 X _ hk62 _ _ _ _ _ _ _ hf
  · rw [if_neg c2] at hf
    refine V_iconst (pc := 107) (v := 1) X (th_da dtX4_storm 57 rfl) (by decide) ?_
    refine V_goto (pc := 108) (tgt := 112) X (th_da dtX4_storm 58 rfl) (by decide) ?_
    refine V_mask [true, false, true, true, false, true, true, false] (ls2 := [.ref 0, .null, .int y2, .int y3, .null, .int y5, .int y6, .null]) rfl ?_
    exact tX4_storm_c112 X _ hk62 _ _ _ _ _ _ _ hf
set_option maxHeartbeats 4000000 in
set_option maxRecDepth 100000 in
theorem tX4_storm_c62 (X : th_X p0 s m args meth c D cI cZ ad LM 8 RX4 cX4_storm (some .int)) : ∀ (n : Nat) (y2 : Int32) (y3 : Int32) (y4 : Int32) (y5 : Int32) (y6 : Int32) (h : th_H), fX4_storm_c62 n y2 y3 y4 y5 y6 h = some (rr, hh) → th_V p0 l e { frames := 7, cells := 0, slots := 0, locals := 160 } s m args below meth c D cI cZ ad LM 8 (some (.int rr)) hh 62 [.ref 0, .null, .int y2, .int y3, .int y4, .int y5, .int y6, .null] [] h := by
  intro n
  induction n with
  | zero => intro y2 y3 y4 y5 y6 h hf; cases hf
  | succ n ih =>
    intro y2 y3 y4 y5 y6 h hf
    rw [fX4_storm_c62] at hf
    refine V_iload (pc := 62) X (th_da dtX4_storm 35 rfl) rfl ?_
    refine V_iload_n (pc := 64) X (th_da dtX4_storm 36 rfl) rfl ?_
    refine V_icmp_ge (pc := 65) (tgt := 138) X (th_da dtX4_storm 37 rfl) (by decide) (fun c1 => ?_) (fun c1 => ?_)
    · rw [if_pos c1] at hf
      refine V_aload_n (pc := 68) X (th_da dtX4_storm 38 rfl) rfl ?_
      obtain ⟨u2, h2, e2, hf⟩ := th_bd_some hf
      refine V_callVi (pc := 69) (q := 0) (As := []) X (th_da dtX4_storm 39 rfl) (mX4_draw l _ _ _ e2) wcd_X4_draw wml_X4_270 wim_X4_draw wse_X4_draw win_X4_draw hd_X4_draw ⟨Nat.le_of_ble_eq_true rfl, Nat.le_of_ble_eq_true rfl⟩ (Nat.le_of_ble_eq_true rfl) rfl rfl rfl ?_
      refine V_iconst (pc := 72) (v := 4) X (th_da dtX4_storm 40 rfl) (by decide) ?_
      refine V_irem (pc := 73) X (th_da dtX4_storm 41 rfl) (by decide) ?_
      refine V_istore (pc := 74) (ls2 := [.ref 0, .null, .int y2, .int y3, .int y4, .int y5, .int y6, .int (th_rem u2 4)]) X (th_da dtX4_storm 42 rfl) (Nat.le_of_ble_eq_true rfl) rfl rfl ?_
      refine V_iload (pc := 76) X (th_da dtX4_storm 43 rfl) rfl ?_
      refine V_if_ne (pc := 78) (tgt := 88) X (th_da dtX4_storm 44 rfl) (by decide) (fun c3 => ?_) (fun c3 => ?_)
      · rw [if_pos c3] at hf
        refine V_aload_n (pc := 81) X (th_da dtX4_storm 45 rfl) rfl ?_
        obtain ⟨u4, h4, e4, hf⟩ := th_bd_some hf
        refine V_callVv (pc := 82) (q := 0) (As := []) X (th_da dtX4_storm 46 rfl) (mX4_comesByChance l _ _ _ e4) wcd_X4_comesByChance wml_X4_275 wim_X4_comesByChance wse_X4_comesByChance win_X4_comesByChance hd_X4_comesByChance ⟨Nat.le_of_ble_eq_true rfl, Nat.le_of_ble_eq_true rfl⟩ (Nat.le_of_ble_eq_true rfl) rfl rfl rfl ?_
        refine V_goto (pc := 85) (tgt := 98) X (th_da dtX4_storm 47 rfl) (by decide) ?_
        refine V_mask [true, false, true, true, true, true, true, false] (ls2 := [.ref 0, .null, .int y2, .int y3, .int y4, .int y5, .int y6, .null]) rfl ?_
        exact tX4_storm_c98 X _ ih _ _ _ _ _ _ hf
      · rw [if_neg c3] at hf
        refine V_iload (pc := 88) X (th_da dtX4_storm 48 rfl) rfl ?_
        refine V_iconst (pc := 90) (v := 1) X (th_da dtX4_storm 49 rfl) (by decide) ?_
        refine V_icmp_ne (pc := 91) (tgt := 98) X (th_da dtX4_storm 50 rfl) (by decide) (fun c5 => ?_) (fun c5 => ?_)
        · rw [if_pos c5] at hf
          refine V_aload_n (pc := 94) X (th_da dtX4_storm 51 rfl) rfl ?_
          obtain ⟨u6, h6, e6, hf⟩ := th_bd_some hf
          refine V_callVv (pc := 95) (q := 0) (As := []) X (th_da dtX4_storm 52 rfl) (mX4_goesByChance l _ _ _ e6) wcd_X4_goesByChance wml_X4_278 wim_X4_goesByChance wse_X4_goesByChance win_X4_goesByChance hd_X4_goesByChance ⟨Nat.le_of_ble_eq_true rfl, Nat.le_of_ble_eq_true rfl⟩ (Nat.le_of_ble_eq_true rfl) rfl rfl rfl ?_
          refine V_mask [true, false, true, true, true, true, true, false] (ls2 := [.ref 0, .null, .int y2, .int y3, .int y4, .int y5, .int y6, .null]) rfl ?_
          exact tX4_storm_c98 X _ ih _ _ _ _ _ _ hf
        · rw [if_neg c5] at hf
          refine V_mask [true, false, true, true, true, true, true, false] (ls2 := [.ref 0, .null, .int y2, .int y3, .int y4, .int y5, .int y6, .null]) rfl ?_
          exact tX4_storm_c98 X _ ih _ _ _ _ _ _ hf
    · rw [if_neg c1] at hf
      refine V_aload_n (pc := 138) X (th_da dtX4_storm 73 rfl) rfl ?_
      obtain ⟨u7, h7, e7, hf⟩ := th_bd_some hf
      refine V_callVi (pc := 139) (q := 0) (As := []) X (th_da dtX4_storm 74 rfl) (mX4_flowMany l _ _ _ e7) wcd_X4_flowMany wml_X4_128 wim_X4_flowMany wse_X4_flowMany win_X4_flowMany hd_X4_flowMany ⟨Nat.le_of_ble_eq_true rfl, Nat.le_of_ble_eq_true rfl⟩ (Nat.le_of_ble_eq_true rfl) rfl rfl rfl ?_
      refine V_istore (pc := 142) (ls2 := [.ref 0, .null, .int y2, .int y3, .int y4, .int y5, .int u7, .null]) X (th_da dtX4_storm 75 rfl) (Nat.le_of_ble_eq_true rfl) rfl rfl ?_
      refine V_aload_n (pc := 144) X (th_da dtX4_storm 76 rfl) rfl ?_
      obtain ⟨u8, h8, e8, hf⟩ := th_bd_some hf
      refine V_callVv (pc := 145) (q := 0) (As := []) X (th_da dtX4_storm 77 rfl) (mX4_endThought l _ _ _ e8) wcd_X4_endThought wml_X4_248 wim_X4_endThought wse_X4_endThought win_X4_endThought hd_X4_endThought ⟨Nat.le_of_ble_eq_true rfl, Nat.le_of_ble_eq_true rfl⟩ (Nat.le_of_ble_eq_true rfl) rfl rfl rfl ?_
      refine V_iload_n (pc := 148) X (th_da dtX4_storm 78 rfl) rfl ?_
      refine V_if_ne (pc := 149) (tgt := 157) X (th_da dtX4_storm 79 rfl) (by decide) (fun c9 => ?_) (fun c9 => ?_)
      · rw [if_pos c9] at hf
        refine V_iload (pc := 152) X (th_da dtX4_storm 80 rfl) rfl ?_
        refine V_goto (pc := 154) (tgt := 169) X (th_da dtX4_storm 81 rfl) (by decide) ?_
        exact V_iretF (pc := 169) X (th_da dtX4_storm 88 rfl) hf
      · rw [if_neg c9] at hf
        refine V_iload_n (pc := 157) X (th_da dtX4_storm 82 rfl) rfl ?_
        refine V_iconst (pc := 158) (v := 1) X (th_da dtX4_storm 83 rfl) (by decide) ?_
        refine V_icmp_ne (pc := 159) (tgt := 167) X (th_da dtX4_storm 84 rfl) (by decide) (fun c10 => ?_) (fun c10 => ?_)
        · rw [if_pos c10] at hf
          refine V_iload (pc := 162) X (th_da dtX4_storm 85 rfl) rfl ?_
          refine V_goto (pc := 164) (tgt := 169) X (th_da dtX4_storm 86 rfl) (by decide) ?_
          exact V_iretF (pc := 169) X (th_da dtX4_storm 88 rfl) hf
        · rw [if_neg c10] at hf
          refine V_iload (pc := 167) X (th_da dtX4_storm 87 rfl) rfl ?_
          exact V_iretF (pc := 169) X (th_da dtX4_storm 88 rfl) hf
set_option maxHeartbeats 4000000 in
set_option maxRecDepth 100000 in
theorem mX4_storm (l : Launch) (x1 : Int32) (x2 : Int32) (x3 : Int32) (h : th_H) (rr : Int32) (hh : th_H) (hf : fX4_storm x1 x2 x3 h = some (rr, hh)) : th_MI l LM yX4_storm cX4_storm 8 (some .int) 7 160 [.ref 0, .int x1, .int x2, .int x3] h (some (.int rr)) hh := by
  refine th_MI_of (ls := [.ref 0, .int x1, .int x2, .int x3, .null, .null, .null, .null]) RX4 rfl rfl rfl (Nat.le_of_ble_eq_true rfl) ?_
  intro p0 e s m args below meth c D cI cZ ad X
  unfold fX4_storm at hf
  refine V_aload_n (pc := 0) X (th_da dtX4_storm 0 rfl) rfl ?_
  refine V_iconst (pc := 1) (v := 0) X (th_da dtX4_storm 1 rfl) (by decide) ?_
  obtain ⟨h1, e1, hf⟩ := th_st_some hf
  refine V_putI (pc := 2) (j := 0) (ty := .int) X (th_da dtX4_storm 2 rfl) wfl_X4_55 iX4 rfl rfl (Nat.le_of_ble_eq_true rfl) rfl tyX4 tyX4_ok nmX4 rfl (tyX4_ok 0 (Nat.le_of_ble_eq_true rfl)) rfl rfl e1 ?_
  refine V_iload_n (pc := 5) X (th_da dtX4_storm 3 rfl) rfl ?_
  refine V_i2l (pc := 6) X (th_da dtX4_storm 4 rfl) ?_
  refine V_lconst (pc := 7) (v := 0) X (th_da dtX4_storm 5 rfl) (by decide) ?_
  refine V_ldc2 (pc := 8) (v := 999999) X (th_da dtX4_storm 6 rfl) wcl_X4_116 ?_
  obtain ⟨u2, h2, e2, hf⟩ := th_bd_some hf
  refine V_callSi (pc := 11) (As := [.long (Int32.toInt64 x1), .long 0, .long 999999]) X (th_da dtX4_storm 7 rfl) (mX4_in l _ _ _ _ _ _ e2) wcd_X4_in wml_X4_63 wst_X4_in win_X4_in hd_X4_in ⟨Nat.le_of_ble_eq_true rfl, Nat.le_of_ble_eq_true rfl⟩ (Nat.le_of_ble_eq_true rfl) rfl ?_
  refine V_if_eq (pc := 14) (tgt := 41) X (th_da dtX4_storm 8 rfl) (by decide) (fun c3 => ?_) (fun c3 => ?_)
  · rw [if_pos c3] at hf
    refine V_iconst (pc := 41) (v := (-1)) X (th_da dtX4_storm 21 rfl) (by decide) ?_
    exact V_iretF (pc := 42) X (th_da dtX4_storm 22 rfl) hf
  · rw [if_neg c3] at hf
    refine V_iload_n (pc := 17) X (th_da dtX4_storm 9 rfl) rfl ?_
    refine V_i2l (pc := 18) X (th_da dtX4_storm 10 rfl) ?_
    refine V_lconst (pc := 19) (v := 1) X (th_da dtX4_storm 11 rfl) (by decide) ?_
    refine V_ldc2 (pc := 20) (v := 40) X (th_da dtX4_storm 12 rfl) wcl_X4_273 ?_
    obtain ⟨u4, h4, e4, hf⟩ := th_bd_some hf
    refine V_callSi (pc := 23) (As := [.long (Int32.toInt64 x2), .long 1, .long 40]) X (th_da dtX4_storm 13 rfl) (mX4_in l _ _ _ _ _ _ e4) wcd_X4_in wml_X4_63 wst_X4_in win_X4_in hd_X4_in ⟨Nat.le_of_ble_eq_true rfl, Nat.le_of_ble_eq_true rfl⟩ (Nat.le_of_ble_eq_true rfl) rfl ?_
    refine V_if_eq (pc := 26) (tgt := 41) X (th_da dtX4_storm 14 rfl) (by decide) (fun c5 => ?_) (fun c5 => ?_)
    · rw [if_pos c5] at hf
      refine V_iconst (pc := 41) (v := (-1)) X (th_da dtX4_storm 21 rfl) (by decide) ?_
      exact V_iretF (pc := 42) X (th_da dtX4_storm 22 rfl) hf
    · rw [if_neg c5] at hf
      refine V_iload_n (pc := 29) X (th_da dtX4_storm 15 rfl) rfl ?_
      refine V_i2l (pc := 30) X (th_da dtX4_storm 16 rfl) ?_
      refine V_lconst (pc := 31) (v := 0) X (th_da dtX4_storm 17 rfl) (by decide) ?_
      refine V_ldc2 (pc := 32) (v := 2) X (th_da dtX4_storm 18 rfl) wcl_X4_131 ?_
      obtain ⟨u6, h6, e6, hf⟩ := th_bd_some hf
      refine V_callSi (pc := 35) (As := [.long (Int32.toInt64 x3), .long 0, .long 2]) X (th_da dtX4_storm 19 rfl) (mX4_in l _ _ _ _ _ _ e6) wcd_X4_in wml_X4_63 wst_X4_in win_X4_in hd_X4_in ⟨Nat.le_of_ble_eq_true rfl, Nat.le_of_ble_eq_true rfl⟩ (Nat.le_of_ble_eq_true rfl) rfl ?_
      refine V_if_ne (pc := 38) (tgt := 43) X (th_da dtX4_storm 20 rfl) (by decide) (fun c7 => ?_) (fun c7 => ?_)
      · rw [if_pos c7] at hf
        refine V_iconst (pc := 41) (v := (-1)) X (th_da dtX4_storm 21 rfl) (by decide) ?_
        exact V_iretF (pc := 42) X (th_da dtX4_storm 22 rfl) hf
      · rw [if_neg c7] at hf
        refine V_aload_n (pc := 43) X (th_da dtX4_storm 23 rfl) rfl ?_
        obtain ⟨u8, h8, e8, hf⟩ := th_bd_some hf
        refine V_callVv (pc := 44) (q := 0) (As := []) X (th_da dtX4_storm 24 rfl) (mX4_think l _ _ _ e8) wcd_X4_think wml_X4_245 wim_X4_think wse_X4_think win_X4_think hd_X4_think ⟨Nat.le_of_ble_eq_true rfl, Nat.le_of_ble_eq_true rfl⟩ (Nat.le_of_ble_eq_true rfl) rfl rfl rfl ?_
        refine V_aload_n (pc := 47) X (th_da dtX4_storm 25 rfl) rfl ?_
        refine V_iload_n (pc := 48) X (th_da dtX4_storm 26 rfl) rfl ?_
        refine V_i2l (pc := 49) X (th_da dtX4_storm 27 rfl) ?_
        obtain ⟨h9, e9, hf⟩ := th_st_some hf
        refine V_putL (pc := 50) (j := 17) X (th_da dtX4_storm 28 rfl) wfl_X4_260 iX4 rfl rfl (Nat.le_of_ble_eq_true rfl) rfl tyX4 tyX4_ok nmX4 rfl (tyX4_ok 17 (Nat.le_of_ble_eq_true rfl)) LM_one e9 ?_
        refine V_iconst (pc := 53) (v := 0) X (th_da dtX4_storm 29 rfl) (by decide) ?_
        refine V_istore (pc := 54) (ls2 := [.ref 0, .int x1, .int x2, .int x3, .int 0, .null, .null, .null]) X (th_da dtX4_storm 30 rfl) (Nat.le_of_ble_eq_true rfl) rfl rfl ?_
        refine V_iconst (pc := 56) (v := 0) X (th_da dtX4_storm 31 rfl) (by decide) ?_
        refine V_istore (pc := 57) (ls2 := [.ref 0, .int x1, .int x2, .int x3, .int 0, .int 0, .null, .null]) X (th_da dtX4_storm 32 rfl) (Nat.le_of_ble_eq_true rfl) rfl rfl ?_
        refine V_iconst (pc := 59) (v := 0) X (th_da dtX4_storm 33 rfl) (by decide) ?_
        refine V_istore (pc := 60) (ls2 := [.ref 0, .int x1, .int x2, .int x3, .int 0, .int 0, .int 0, .null]) X (th_da dtX4_storm 34 rfl) (Nat.le_of_ble_eq_true rfl) rfl rfl ?_
        refine V_mask [true, false, true, true, true, true, true, false] (ls2 := [.ref 0, .null, .int x2, .int x3, .int 0, .int 0, .int 0, .null]) rfl ?_
        exact tX4_storm_c62 X _ _ _ _ _ _ _ hf
end
def fX4_linksWithFlows_c4 : Nat → Int32 → Int32 → th_H → Option (Int32 × th_H)
  | 0, _, _, _ => none
  | n + 1, y1, y2, h =>
    if (y2 < 10 : Prop) then
      th_bd (fX4_hasFlows y2 h) fun u2 h2 =>
      if (u2 = 0 : Prop) then
        fX4_linksWithFlows_c4 n (y1 + 0) (y2 + 1) h2
      else
        fX4_linksWithFlows_c4 n (y1 + 1) (y2 + 1) h2
    else
      some (y1, h)
def fX4_linksWithFlows (h : th_H) : Option (Int32 × th_H) :=
  fX4_linksWithFlows_c4 1000 0 0 h
def tbX4_linksWithFlows : List (Nat × Instr × Nat) := [(0, .iconst 0, 1), (1, .istore_n 1, 1), (2, .iconst 0, 1), (3, .istore_n 2, 1), (4, .iload_n 2, 1), (5, .bipush 10, 2), (7, .if_icmp .ge 25, 3), (10, .iload_n 1, 1), (11, .aload_n 0, 1), (12, .iload_n 2, 1), (13, .invokevirtual 221, 3), (16, .ifCond .eq 7, 3), (19, .iconst 1, 1), (20, .goto 4, 3), (23, .iconst 0, 1), (24, .iadd, 1), (25, .istore_n 1, 1), (26, .iinc 2 1, 3), (29, .goto (-25), 3), (32, .iload_n 1, 1), (33, .ireturn, 1)]
theorem dtX4_linksWithFlows : th_dec cX4_linksWithFlows tbX4_linksWithFlows = true := by decide +kernel
section
variable {p0 : Program} {l : Launch} {e : Env} {s : State} {m : MethodId} {args : Array Value} {below : List Frame} {meth : Method} {c : Code} {D : va_G} {cI cZ : ClassId} {ad : Nat → Nat} {rr : Int32} {hh : th_H}
set_option maxHeartbeats 4000000 in
set_option maxRecDepth 100000 in
theorem tX4_linksWithFlows_c4 (X : th_X p0 s m args meth c D cI cZ ad LM 3 RX4 cX4_linksWithFlows (some .int)) : ∀ (n : Nat) (y1 : Int32) (y2 : Int32) (h : th_H), fX4_linksWithFlows_c4 n y1 y2 h = some (rr, hh) → th_V p0 l e { frames := 3, cells := 0, slots := 0, locals := 65 } s m args below meth c D cI cZ ad LM 3 (some (.int rr)) hh 4 [.ref 0, .int y1, .int y2] [] h := by
  intro n
  induction n with
  | zero => intro y1 y2 h hf; cases hf
  | succ n ih =>
    intro y1 y2 h hf
    rw [fX4_linksWithFlows_c4] at hf
    refine V_iload_n (pc := 4) X (th_da dtX4_linksWithFlows 4 rfl) rfl ?_
    refine V_bipush (pc := 5) (v := 10) X (th_da dtX4_linksWithFlows 5 rfl) (by decide) ?_
    refine V_icmp_ge (pc := 7) (tgt := 32) X (th_da dtX4_linksWithFlows 6 rfl) (by decide) (fun c1 => ?_) (fun c1 => ?_)
    · rw [if_pos c1] at hf
      refine V_iload_n (pc := 10) X (th_da dtX4_linksWithFlows 7 rfl) rfl ?_
      refine V_aload_n (pc := 11) X (th_da dtX4_linksWithFlows 8 rfl) rfl ?_
      refine V_iload_n (pc := 12) X (th_da dtX4_linksWithFlows 9 rfl) rfl ?_
      obtain ⟨u2, h2, e2, hf⟩ := th_bd_some hf
      refine V_callVi (pc := 13) (q := 0) (As := [.int y2]) X (th_da dtX4_linksWithFlows 10 rfl) (mX4_hasFlows l _ _ _ _ e2) wcd_X4_hasFlows wml_X4_221 wim_X4_hasFlows wse_X4_hasFlows win_X4_hasFlows hd_X4_hasFlows ⟨Nat.le_of_ble_eq_true rfl, Nat.le_of_ble_eq_true rfl⟩ (Nat.le_of_ble_eq_true rfl) rfl rfl rfl ?_
      refine V_if_eq (pc := 16) (tgt := 23) X (th_da dtX4_linksWithFlows 11 rfl) (by decide) (fun c3 => ?_) (fun c3 => ?_)
      · rw [if_pos c3] at hf
        refine V_iconst (pc := 23) (v := 0) X (th_da dtX4_linksWithFlows 14 rfl) (by decide) ?_
        refine V_iadd (pc := 24) X (th_da dtX4_linksWithFlows 15 rfl) ?_
        refine V_istore_n (pc := 25) (ls2 := [.ref 0, .int (y1 + 0), .int y2]) X (th_da dtX4_linksWithFlows 16 rfl) (Nat.le_of_ble_eq_true rfl) rfl rfl ?_
        refine V_iinc (pc := 26) (v := y2 + 1) (ls2 := [.ref 0, .int (y1 + 0), .int (y2 + 1)]) X (th_da dtX4_linksWithFlows 17 rfl) rfl rfl (Nat.le_of_ble_eq_true rfl) rfl rfl ?_
        refine V_goto (pc := 29) (tgt := 4) X (th_da dtX4_linksWithFlows 18 rfl) (by decide) ?_
        exact ih _ _ _ hf
      · rw [if_neg c3] at hf
        refine V_iconst (pc := 19) (v := 1) X (th_da dtX4_linksWithFlows 12 rfl) (by decide) ?_
        refine V_goto (pc := 20) (tgt := 24) X (th_da dtX4_linksWithFlows 13 rfl) (by decide) ?_
        refine V_iadd (pc := 24) X (th_da dtX4_linksWithFlows 15 rfl) ?_
        refine V_istore_n (pc := 25) (ls2 := [.ref 0, .int (y1 + 1), .int y2]) X (th_da dtX4_linksWithFlows 16 rfl) (Nat.le_of_ble_eq_true rfl) rfl rfl ?_
        refine V_iinc (pc := 26) (v := y2 + 1) (ls2 := [.ref 0, .int (y1 + 1), .int (y2 + 1)]) X (th_da dtX4_linksWithFlows 17 rfl) rfl rfl (Nat.le_of_ble_eq_true rfl) rfl rfl ?_
        refine V_goto (pc := 29) (tgt := 4) X (th_da dtX4_linksWithFlows 18 rfl) (by decide) ?_
        exact ih _ _ _ hf
    · rw [if_neg c1] at hf
      refine V_iload_n (pc := 32) X (th_da dtX4_linksWithFlows 19 rfl) rfl ?_
      exact V_iretF (pc := 33) X (th_da dtX4_linksWithFlows 20 rfl) hf
set_option maxHeartbeats 4000000 in
set_option maxRecDepth 100000 in
theorem mX4_linksWithFlows (l : Launch) (h : th_H) (rr : Int32) (hh : th_H) (hf : fX4_linksWithFlows h = some (rr, hh)) : th_MI l LM yX4_linksWithFlows cX4_linksWithFlows 3 (some .int) 3 65 [.ref 0] h (some (.int rr)) hh := by
  refine th_MI_of (ls := [.ref 0, .null, .null]) RX4 rfl rfl rfl (Nat.le_of_ble_eq_true rfl) ?_
  intro p0 e s m args below meth c D cI cZ ad X
  unfold fX4_linksWithFlows at hf
  refine V_iconst (pc := 0) (v := 0) X (th_da dtX4_linksWithFlows 0 rfl) (by decide) ?_
  refine V_istore_n (pc := 1) (ls2 := [.ref 0, .int 0, .null]) X (th_da dtX4_linksWithFlows 1 rfl) (Nat.le_of_ble_eq_true rfl) rfl rfl ?_
  refine V_iconst (pc := 2) (v := 0) X (th_da dtX4_linksWithFlows 2 rfl) (by decide) ?_
  refine V_istore_n (pc := 3) (ls2 := [.ref 0, .int 0, .int 0]) X (th_da dtX4_linksWithFlows 3 rfl) (Nat.le_of_ble_eq_true rfl) rfl rfl ?_
  exact tX4_linksWithFlows_c4 X _ _ _ _ hf
end
def fX4_marksAll_c19 (k4 : Int32 → Int32 → th_H → Option (Int32 × th_H)) : Nat → Int32 → Int32 → Int32 → Int32 → th_H → Option (Int32 × th_H)
  | 0, _, _, _, _, _ => none
  | n + 1, y1, y2, y3, y4, h =>
    if (y4 < 20 : Prop) then
      th_bd (fX4_goesOver y4 y2 h) fun u2 h2 =>
      if (u2 = 0 : Prop) then
        fX4_marksAll_c19 k4 n (y1 + 0) y2 y3 (y4 + 1) h2
      else
        th_bd (fX4_elsewhere y4 y2 h2) fun u4 h4 =>
        if (u4 < y3 : Prop) then
          fX4_marksAll_c19 k4 n (y1 + 1) y2 y3 (y4 + 1) h4
        else
          fX4_marksAll_c19 k4 n (y1 + 0) y2 y3 (y4 + 1) h4
    else
      k4 y1 (y2 + 1) h
def fX4_marksAll_c4 : Nat → Int32 → Int32 → th_H → Option (Int32 × th_H)
  | 0, _, _, _ => none
  | n + 1, y1, y2, h =>
    if (y2 < 10 : Prop) then
      th_bd (fX4_advertises y2 h) fun u2 h2 =>
      fX4_marksAll_c19 (fX4_marksAll_c4 n) 1000 y1 y2 u2 0 h2
    else
      some (y1, h)
def fX4_marksAll (h : th_H) : Option (Int32 × th_H) :=
  fX4_marksAll_c4 1000 0 0 h
def tbX4_marksAll : List (Nat × Instr × Nat) := [(0, .iconst 0, 1), (1, .istore_n 1, 1), (2, .iconst 0, 1), (3, .istore_n 2, 1), (4, .iload_n 2, 1), (5, .bipush 10, 2), (7, .if_icmp .ge 60, 3), (10, .aload_n 0, 1), (11, .iload_n 2, 1), (12, .invokevirtual 159, 3), (15, .istore_n 3, 1), (16, .iconst 0, 1), (17, .istore 4, 2), (19, .iload 4, 2), (21, .bipush 20, 2), (23, .if_icmp .ge 38, 3), (26, .iload_n 1, 1), (27, .aload_n 0, 1), (28, .iload 4, 2), (30, .iload_n 2, 1), (31, .invokevirtual 75, 3), (34, .ifCond .eq 18, 3), (37, .aload_n 0, 1), (38, .iload 4, 2), (40, .iload_n 2, 1), (41, .invokevirtual 148, 3), (44, .iload_n 3, 1), (45, .if_icmp .ge 7, 3), (48, .iconst 1, 1), (49, .goto 4, 3), (52, .iconst 0, 1), (53, .iadd, 1), (54, .istore_n 1, 1), (55, .iinc 4 1, 3), (58, .goto (-39), 3), (61, .iinc 2 1, 3), (64, .goto (-60), 3), (67, .iload_n 1, 1), (68, .ireturn, 1)]
theorem dtX4_marksAll : th_dec cX4_marksAll tbX4_marksAll = true := by decide +kernel
section
variable {p0 : Program} {l : Launch} {e : Env} {s : State} {m : MethodId} {args : Array Value} {below : List Frame} {meth : Method} {c : Code} {D : va_G} {cI cZ : ClassId} {ad : Nat → Nat} {rr : Int32} {hh : th_H}
set_option maxHeartbeats 4000000 in
set_option maxRecDepth 100000 in
theorem tX4_marksAll_c19 (X : th_X p0 s m args meth c D cI cZ ad LM 5 RX4 cX4_marksAll (some .int)) (k4 : Int32 → Int32 → th_H → Option (Int32 × th_H)) (hk4 : ∀ (y1 : Int32) (y2 : Int32) (h : th_H), k4 y1 y2 h = some (rr, hh) → th_V p0 l e { frames := 4, cells := 0, slots := 0, locals := 92 } s m args below meth c D cI cZ ad LM 5 (some (.int rr)) hh 4 [.ref 0, .int y1, .int y2, .null, .null] [] h) : ∀ (n : Nat) (y1 : Int32) (y2 : Int32) (y3 : Int32) (y4 : Int32) (h : th_H), fX4_marksAll_c19 k4 n y1 y2 y3 y4 h = some (rr, hh) → th_V p0 l e { frames := 4, cells := 0, slots := 0, locals := 92 } s m args below meth c D cI cZ ad LM 5 (some (.int rr)) hh 19 [.ref 0, .int y1, .int y2, .int y3, .int y4] [] h := by
  intro n
  induction n with
  | zero => intro y1 y2 y3 y4 h hf; cases hf
  | succ n ih =>
    intro y1 y2 y3 y4 h hf
    rw [fX4_marksAll_c19] at hf
    refine V_iload (pc := 19) X (th_da dtX4_marksAll 13 rfl) rfl ?_
    refine V_bipush (pc := 21) (v := 20) X (th_da dtX4_marksAll 14 rfl) (by decide) ?_
    refine V_icmp_ge (pc := 23) (tgt := 61) X (th_da dtX4_marksAll 15 rfl) (by decide) (fun c1 => ?_) (fun c1 => ?_)
    · rw [if_pos c1] at hf
      refine V_iload_n (pc := 26) X (th_da dtX4_marksAll 16 rfl) rfl ?_
      refine V_aload_n (pc := 27) X (th_da dtX4_marksAll 17 rfl) rfl ?_
      refine V_iload (pc := 28) X (th_da dtX4_marksAll 18 rfl) rfl ?_
      refine V_iload_n (pc := 30) X (th_da dtX4_marksAll 19 rfl) rfl ?_
      obtain ⟨u2, h2, e2, hf⟩ := th_bd_some hf
      refine V_callVi (pc := 31) (q := 0) (As := [.int y4, .int y2]) X (th_da dtX4_marksAll 20 rfl) (mX4_goesOver l _ _ _ _ _ e2) wcd_X4_goesOver wml_X4_75 wim_X4_goesOver wse_X4_goesOver win_X4_goesOver hd_X4_goesOver ⟨Nat.le_of_ble_eq_true rfl, Nat.le_of_ble_eq_true rfl⟩ (Nat.le_of_ble_eq_true rfl) rfl rfl rfl ?_
      refine V_if_eq (pc := 34) (tgt := 52) X (th_da dtX4_marksAll 21 rfl) (by decide) (fun c3 => ?_) (fun c3 => ?_)
      · rw [if_pos c3] at hf
        refine V_iconst (pc := 52) (v := 0) X (th_da dtX4_marksAll 30 rfl) (by decide) ?_
        refine V_iadd (pc := 53) X (th_da dtX4_marksAll 31 rfl) ?_
        refine V_istore_n (pc := 54) (ls2 := [.ref 0, .int (y1 + 0), .int y2, .int y3, .int y4]) X (th_da dtX4_marksAll 32 rfl) (Nat.le_of_ble_eq_true rfl) rfl rfl ?_
        refine V_iinc (pc := 55) (v := y4 + 1) (ls2 := [.ref 0, .int (y1 + 0), .int y2, .int y3, .int (y4 + 1)]) X (th_da dtX4_marksAll 33 rfl) rfl rfl (Nat.le_of_ble_eq_true rfl) rfl rfl ?_
        refine V_goto (pc := 58) (tgt := 19) X (th_da dtX4_marksAll 34 rfl) (by decide) ?_
        exact ih _ _ _ _ _ hf
      · rw [if_neg c3] at hf
        refine V_aload_n (pc := 37) X (th_da dtX4_marksAll 22 rfl) rfl ?_
        refine V_iload (pc := 38) X (th_da dtX4_marksAll 23 rfl) rfl ?_
        refine V_iload_n (pc := 40) X (th_da dtX4_marksAll 24 rfl) rfl ?_
        obtain ⟨u4, h4, e4, hf⟩ := th_bd_some hf
        refine V_callVi (pc := 41) (q := 0) (As := [.int y4, .int y2]) X (th_da dtX4_marksAll 25 rfl) (mX4_elsewhere l _ _ _ _ _ e4) wcd_X4_elsewhere wml_X4_148 wim_X4_elsewhere wse_X4_elsewhere win_X4_elsewhere hd_X4_elsewhere ⟨Nat.le_of_ble_eq_true rfl, Nat.le_of_ble_eq_true rfl⟩ (Nat.le_of_ble_eq_true rfl) rfl rfl rfl ?_
        refine V_iload_n (pc := 44) X (th_da dtX4_marksAll 26 rfl) rfl ?_
        refine V_icmp_ge (pc := 45) (tgt := 52) X (th_da dtX4_marksAll 27 rfl) (by decide) (fun c5 => ?_) (fun c5 => ?_)
        · rw [if_pos c5] at hf
          refine V_iconst (pc := 48) (v := 1) X (th_da dtX4_marksAll 28 rfl) (by decide) ?_
          refine V_goto (pc := 49) (tgt := 53) X (th_da dtX4_marksAll 29 rfl) (by decide) ?_
          refine V_iadd (pc := 53) X (th_da dtX4_marksAll 31 rfl) ?_
          refine V_istore_n (pc := 54) (ls2 := [.ref 0, .int (y1 + 1), .int y2, .int y3, .int y4]) X (th_da dtX4_marksAll 32 rfl) (Nat.le_of_ble_eq_true rfl) rfl rfl ?_
          refine V_iinc (pc := 55) (v := y4 + 1) (ls2 := [.ref 0, .int (y1 + 1), .int y2, .int y3, .int (y4 + 1)]) X (th_da dtX4_marksAll 33 rfl) rfl rfl (Nat.le_of_ble_eq_true rfl) rfl rfl ?_
          refine V_goto (pc := 58) (tgt := 19) X (th_da dtX4_marksAll 34 rfl) (by decide) ?_
          exact ih _ _ _ _ _ hf
        · rw [if_neg c5] at hf
          refine V_iconst (pc := 52) (v := 0) X (th_da dtX4_marksAll 30 rfl) (by decide) ?_
          refine V_iadd (pc := 53) X (th_da dtX4_marksAll 31 rfl) ?_
          refine V_istore_n (pc := 54) (ls2 := [.ref 0, .int (y1 + 0), .int y2, .int y3, .int y4]) X (th_da dtX4_marksAll 32 rfl) (Nat.le_of_ble_eq_true rfl) rfl rfl ?_
          refine V_iinc (pc := 55) (v := y4 + 1) (ls2 := [.ref 0, .int (y1 + 0), .int y2, .int y3, .int (y4 + 1)]) X (th_da dtX4_marksAll 33 rfl) rfl rfl (Nat.le_of_ble_eq_true rfl) rfl rfl ?_
          refine V_goto (pc := 58) (tgt := 19) X (th_da dtX4_marksAll 34 rfl) (by decide) ?_
          exact ih _ _ _ _ _ hf
    · rw [if_neg c1] at hf
      refine V_iinc (pc := 61) (v := y2 + 1) (ls2 := [.ref 0, .int y1, .int (y2 + 1), .int y3, .int y4]) X (th_da dtX4_marksAll 35 rfl) rfl rfl (Nat.le_of_ble_eq_true rfl) rfl rfl ?_
      refine V_goto (pc := 64) (tgt := 4) X (th_da dtX4_marksAll 36 rfl) (by decide) ?_
      refine V_mask [true, true, true, false, false] (ls2 := [.ref 0, .int y1, .int (y2 + 1), .null, .null]) rfl ?_
      exact hk4 _ _ _ hf
set_option maxHeartbeats 4000000 in
set_option maxRecDepth 100000 in
theorem tX4_marksAll_c4 (X : th_X p0 s m args meth c D cI cZ ad LM 5 RX4 cX4_marksAll (some .int)) : ∀ (n : Nat) (y1 : Int32) (y2 : Int32) (h : th_H), fX4_marksAll_c4 n y1 y2 h = some (rr, hh) → th_V p0 l e { frames := 4, cells := 0, slots := 0, locals := 92 } s m args below meth c D cI cZ ad LM 5 (some (.int rr)) hh 4 [.ref 0, .int y1, .int y2, .null, .null] [] h := by
  intro n
  induction n with
  | zero => intro y1 y2 h hf; cases hf
  | succ n ih =>
    intro y1 y2 h hf
    rw [fX4_marksAll_c4] at hf
    refine V_iload_n (pc := 4) X (th_da dtX4_marksAll 4 rfl) rfl ?_
    refine V_bipush (pc := 5) (v := 10) X (th_da dtX4_marksAll 5 rfl) (by decide) ?_
    refine V_icmp_ge (pc := 7) (tgt := 67) X (th_da dtX4_marksAll 6 rfl) (by decide) (fun c1 => ?_) (fun c1 => ?_)
    · rw [if_pos c1] at hf
      refine V_aload_n (pc := 10) X (th_da dtX4_marksAll 7 rfl) rfl ?_
      refine V_iload_n (pc := 11) X (th_da dtX4_marksAll 8 rfl) rfl ?_
      obtain ⟨u2, h2, e2, hf⟩ := th_bd_some hf
      refine V_callVi (pc := 12) (q := 0) (As := [.int y2]) X (th_da dtX4_marksAll 9 rfl) (mX4_advertises l _ _ _ _ e2) wcd_X4_advertises wml_X4_159 wim_X4_advertises wse_X4_advertises win_X4_advertises hd_X4_advertises ⟨Nat.le_of_ble_eq_true rfl, Nat.le_of_ble_eq_true rfl⟩ (Nat.le_of_ble_eq_true rfl) rfl rfl rfl ?_
      refine V_istore_n (pc := 15) (ls2 := [.ref 0, .int y1, .int y2, .int u2, .null]) X (th_da dtX4_marksAll 10 rfl) (Nat.le_of_ble_eq_true rfl) rfl rfl ?_
      refine V_iconst (pc := 16) (v := 0) X (th_da dtX4_marksAll 11 rfl) (by decide) ?_
      refine V_istore (pc := 17) (ls2 := [.ref 0, .int y1, .int y2, .int u2, .int 0]) X (th_da dtX4_marksAll 12 rfl) (Nat.le_of_ble_eq_true rfl) rfl rfl ?_
      exact tX4_marksAll_c19 X _ ih _ _ _ _ _ _ hf
    · rw [if_neg c1] at hf
      refine V_iload_n (pc := 67) X (th_da dtX4_marksAll 37 rfl) rfl ?_
      exact V_iretF (pc := 68) X (th_da dtX4_marksAll 38 rfl) hf
set_option maxHeartbeats 4000000 in
set_option maxRecDepth 100000 in
theorem mX4_marksAll (l : Launch) (h : th_H) (rr : Int32) (hh : th_H) (hf : fX4_marksAll h = some (rr, hh)) : th_MI l LM yX4_marksAll cX4_marksAll 5 (some .int) 4 92 [.ref 0] h (some (.int rr)) hh := by
  refine th_MI_of (ls := [.ref 0, .null, .null, .null, .null]) RX4 rfl rfl rfl (Nat.le_of_ble_eq_true rfl) ?_
  intro p0 e s m args below meth c D cI cZ ad X
  unfold fX4_marksAll at hf
  refine V_iconst (pc := 0) (v := 0) X (th_da dtX4_marksAll 0 rfl) (by decide) ?_
  refine V_istore_n (pc := 1) (ls2 := [.ref 0, .int 0, .null, .null, .null]) X (th_da dtX4_marksAll 1 rfl) (Nat.le_of_ble_eq_true rfl) rfl rfl ?_
  refine V_iconst (pc := 2) (v := 0) X (th_da dtX4_marksAll 2 rfl) (by decide) ?_
  refine V_istore_n (pc := 3) (ls2 := [.ref 0, .int 0, .int 0, .null, .null]) X (th_da dtX4_marksAll 3 rfl) (Nat.le_of_ble_eq_true rfl) rfl rfl ?_
  exact tX4_marksAll_c4 X _ _ _ _ hf
end
def fX4_underWay_c4 : Nat → Int32 → Int32 → th_H → Option (Int32 × th_H)
  | 0, _, _, _ => none
  | n + 1, y1, y2, h =>
    if (y2 < 20 : Prop) then
      th_bd (fX4_isFlow y2 h) fun u2 h2 =>
      if (u2 = 0 : Prop) then
        fX4_underWay_c4 n (y1 + 0) (y2 + 1) h2
      else
        th_bd (fX4_at y2 h2) fun u4 h4 =>
        th_rd h4 2 643 (u4 + 8) fun v5 =>
        if (0 < v5 : Prop) then
          fX4_underWay_c4 n (y1 + 1) (y2 + 1) h4
        else
          fX4_underWay_c4 n (y1 + 0) (y2 + 1) h4
    else
      some (y1, h)
def fX4_underWay (h : th_H) : Option (Int32 × th_H) :=
  fX4_underWay_c4 1000 0 0 h
def tbX4_underWay : List (Nat × Instr × Nat) := [(0, .iconst 0, 1), (1, .istore_n 1, 1), (2, .iconst 0, 1), (3, .istore_n 2, 1), (4, .iload_n 2, 1), (5, .bipush 20, 2), (7, .if_icmp .ge 40, 3), (10, .iload_n 1, 1), (11, .aload_n 0, 1), (12, .iload_n 2, 1), (13, .invokevirtual 125, 3), (16, .ifCond .eq 22, 3), (19, .aload_n 0, 1), (20, .getfield 15, 3), (23, .iload_n 2, 1), (24, .invokestatic 71, 3), (27, .bipush 8, 2), (29, .iadd, 1), (30, .iaload, 1), (31, .ifCond .le 7, 3), (34, .iconst 1, 1), (35, .goto 4, 3), (38, .iconst 0, 1), (39, .iadd, 1), (40, .istore_n 1, 1), (41, .iinc 2 1, 3), (44, .goto (-40), 3), (47, .iload_n 1, 1), (48, .ireturn, 1)]
theorem dtX4_underWay : th_dec cX4_underWay tbX4_underWay = true := by decide +kernel
section
variable {p0 : Program} {l : Launch} {e : Env} {s : State} {m : MethodId} {args : Array Value} {below : List Frame} {meth : Method} {c : Code} {D : va_G} {cI cZ : ClassId} {ad : Nat → Nat} {rr : Int32} {hh : th_H}
set_option maxHeartbeats 4000000 in
set_option maxRecDepth 100000 in
theorem tX4_underWay_c4 (X : th_X p0 s m args meth c D cI cZ ad LM 3 RX4 cX4_underWay (some .int)) : ∀ (n : Nat) (y1 : Int32) (y2 : Int32) (h : th_H), fX4_underWay_c4 n y1 y2 h = some (rr, hh) → th_V p0 l e { frames := 2, cells := 0, slots := 0, locals := 46 } s m args below meth c D cI cZ ad LM 3 (some (.int rr)) hh 4 [.ref 0, .int y1, .int y2] [] h := by
  intro n
  induction n with
  | zero => intro y1 y2 h hf; cases hf
  | succ n ih =>
    intro y1 y2 h hf
    rw [fX4_underWay_c4] at hf
    refine V_iload_n (pc := 4) X (th_da dtX4_underWay 4 rfl) rfl ?_
    refine V_bipush (pc := 5) (v := 20) X (th_da dtX4_underWay 5 rfl) (by decide) ?_
    refine V_icmp_ge (pc := 7) (tgt := 47) X (th_da dtX4_underWay 6 rfl) (by decide) (fun c1 => ?_) (fun c1 => ?_)
    · rw [if_pos c1] at hf
      refine V_iload_n (pc := 10) X (th_da dtX4_underWay 7 rfl) rfl ?_
      refine V_aload_n (pc := 11) X (th_da dtX4_underWay 8 rfl) rfl ?_
      refine V_iload_n (pc := 12) X (th_da dtX4_underWay 9 rfl) rfl ?_
      obtain ⟨u2, h2, e2, hf⟩ := th_bd_some hf
      refine V_callVi (pc := 13) (q := 0) (As := [.int y2]) X (th_da dtX4_underWay 10 rfl) (mX4_isFlow l _ _ _ _ e2) wcd_X4_isFlow wml_X4_125 wim_X4_isFlow wse_X4_isFlow win_X4_isFlow hd_X4_isFlow ⟨Nat.le_of_ble_eq_true rfl, Nat.le_of_ble_eq_true rfl⟩ (Nat.le_of_ble_eq_true rfl) rfl rfl rfl ?_
      refine V_if_eq (pc := 16) (tgt := 38) X (th_da dtX4_underWay 11 rfl) (by decide) (fun c3 => ?_) (fun c3 => ?_)
      · rw [if_pos c3] at hf
        refine V_iconst (pc := 38) (v := 0) X (th_da dtX4_underWay 22 rfl) (by decide) ?_
        refine V_iadd (pc := 39) X (th_da dtX4_underWay 23 rfl) ?_
        refine V_istore_n (pc := 40) (ls2 := [.ref 0, .int (y1 + 0), .int y2]) X (th_da dtX4_underWay 24 rfl) (Nat.le_of_ble_eq_true rfl) rfl rfl ?_
        refine V_iinc (pc := 41) (v := y2 + 1) (ls2 := [.ref 0, .int (y1 + 0), .int (y2 + 1)]) X (th_da dtX4_underWay 25 rfl) rfl rfl (Nat.le_of_ble_eq_true rfl) rfl rfl ?_
        refine V_goto (pc := 44) (tgt := 4) X (th_da dtX4_underWay 26 rfl) (by decide) ?_
        exact ih _ _ _ hf
      · rw [if_neg c3] at hf
        refine V_aload_n (pc := 19) X (th_da dtX4_underWay 12 rfl) rfl ?_
        refine V_getR (pc := 20) (j := 2) (t := 2) X (th_da dtX4_underWay 13 rfl) wfl_X4_15 iX4 rfl rfl (Nat.le_of_ble_eq_true rfl) rfl ?_
        refine V_iload_n (pc := 23) X (th_da dtX4_underWay 14 rfl) rfl ?_
        obtain ⟨u4, h4, e4, hf⟩ := th_bd_some hf
        refine V_callSi (pc := 24) (As := [.int y2]) X (th_da dtX4_underWay 15 rfl) (mX4_at l _ _ _ _ e4) wcd_X4_at wml_X4_71 wst_X4_at win_X4_at hd_X4_at ⟨Nat.le_of_ble_eq_true rfl, Nat.le_of_ble_eq_true rfl⟩ (Nat.le_of_ble_eq_true rfl) rfl ?_
        refine V_bipush (pc := 27) (v := 8) X (th_da dtX4_underWay 16 rfl) (by decide) ?_
        refine V_iadd (pc := 29) X (th_da dtX4_underWay 17 rfl) ?_
        obtain ⟨v5, e5, g5, hf⟩ := th_rd_some hf
        refine V_iald (pc := 30) X (th_da dtX4_underWay 18 rfl) rfl g5 e5 ?_
        refine V_if_le (pc := 31) (tgt := 38) X (th_da dtX4_underWay 19 rfl) (by decide) (fun c6 => ?_) (fun c6 => ?_)
        · rw [if_pos c6] at hf
          refine V_iconst (pc := 34) (v := 1) X (th_da dtX4_underWay 20 rfl) (by decide) ?_
          refine V_goto (pc := 35) (tgt := 39) X (th_da dtX4_underWay 21 rfl) (by decide) ?_
          refine V_iadd (pc := 39) X (th_da dtX4_underWay 23 rfl) ?_
          refine V_istore_n (pc := 40) (ls2 := [.ref 0, .int (y1 + 1), .int y2]) X (th_da dtX4_underWay 24 rfl) (Nat.le_of_ble_eq_true rfl) rfl rfl ?_
          refine V_iinc (pc := 41) (v := y2 + 1) (ls2 := [.ref 0, .int (y1 + 1), .int (y2 + 1)]) X (th_da dtX4_underWay 25 rfl) rfl rfl (Nat.le_of_ble_eq_true rfl) rfl rfl ?_
          refine V_goto (pc := 44) (tgt := 4) X (th_da dtX4_underWay 26 rfl) (by decide) ?_
          exact ih _ _ _ hf
        · rw [if_neg c6] at hf
          refine V_iconst (pc := 38) (v := 0) X (th_da dtX4_underWay 22 rfl) (by decide) ?_
          refine V_iadd (pc := 39) X (th_da dtX4_underWay 23 rfl) ?_
          refine V_istore_n (pc := 40) (ls2 := [.ref 0, .int (y1 + 0), .int y2]) X (th_da dtX4_underWay 24 rfl) (Nat.le_of_ble_eq_true rfl) rfl rfl ?_
          refine V_iinc (pc := 41) (v := y2 + 1) (ls2 := [.ref 0, .int (y1 + 0), .int (y2 + 1)]) X (th_da dtX4_underWay 25 rfl) rfl rfl (Nat.le_of_ble_eq_true rfl) rfl rfl ?_
          refine V_goto (pc := 44) (tgt := 4) X (th_da dtX4_underWay 26 rfl) (by decide) ?_
          exact ih _ _ _ hf
    · rw [if_neg c1] at hf
      refine V_iload_n (pc := 47) X (th_da dtX4_underWay 27 rfl) rfl ?_
      exact V_iretF (pc := 48) X (th_da dtX4_underWay 28 rfl) hf
set_option maxHeartbeats 4000000 in
set_option maxRecDepth 100000 in
theorem mX4_underWay (l : Launch) (h : th_H) (rr : Int32) (hh : th_H) (hf : fX4_underWay h = some (rr, hh)) : th_MI l LM yX4_underWay cX4_underWay 3 (some .int) 2 46 [.ref 0] h (some (.int rr)) hh := by
  refine th_MI_of (ls := [.ref 0, .null, .null]) RX4 rfl rfl rfl (Nat.le_of_ble_eq_true rfl) ?_
  intro p0 e s m args below meth c D cI cZ ad X
  unfold fX4_underWay at hf
  refine V_iconst (pc := 0) (v := 0) X (th_da dtX4_underWay 0 rfl) (by decide) ?_
  refine V_istore_n (pc := 1) (ls2 := [.ref 0, .int 0, .null]) X (th_da dtX4_underWay 1 rfl) (Nat.le_of_ble_eq_true rfl) rfl rfl ?_
  refine V_iconst (pc := 2) (v := 0) X (th_da dtX4_underWay 2 rfl) (by decide) ?_
  refine V_istore_n (pc := 3) (ls2 := [.ref 0, .int 0, .int 0]) X (th_da dtX4_underWay 3 rfl) (Nat.le_of_ble_eq_true rfl) rfl rfl ?_
  exact tX4_underWay_c4 X _ _ _ _ hf
end
def fX4_toBeLost_c4 : Nat → Int32 → Int32 → th_H → Option (Int32 × th_H)
  | 0, _, _, _ => none
  | n + 1, y1, y2, h =>
    if (y2 < 10 : Prop) then
      th_rd h 2 643 ((13 : Int32) + y2) fun v2 =>
      fX4_toBeLost_c4 n (y1 + v2) (y2 + 1) h
    else
      some (y1, h)
def fX4_toBeLost (h : th_H) : Option (Int32 × th_H) :=
  fX4_toBeLost_c4 1000 0 0 h
def tbX4_toBeLost : List (Nat × Instr × Nat) := [(0, .iconst 0, 1), (1, .istore_n 1, 1), (2, .iconst 0, 1), (3, .istore_n 2, 1), (4, .iload_n 2, 1), (5, .bipush 10, 2), (7, .if_icmp .ge 21, 3), (10, .iload_n 1, 1), (11, .aload_n 0, 1), (12, .getfield 15, 3), (15, .bipush 13, 2), (17, .iload_n 2, 1), (18, .iadd, 1), (19, .iaload, 1), (20, .iadd, 1), (21, .istore_n 1, 1), (22, .iinc 2 1, 3), (25, .goto (-21), 3), (28, .iload_n 1, 1), (29, .ireturn, 1)]
theorem dtX4_toBeLost : th_dec cX4_toBeLost tbX4_toBeLost = true := by decide +kernel
section
variable {p0 : Program} {l : Launch} {e : Env} {s : State} {m : MethodId} {args : Array Value} {below : List Frame} {meth : Method} {c : Code} {D : va_G} {cI cZ : ClassId} {ad : Nat → Nat} {rr : Int32} {hh : th_H}
set_option maxHeartbeats 4000000 in
set_option maxRecDepth 100000 in
theorem tX4_toBeLost_c4 (X : th_X p0 s m args meth c D cI cZ ad LM 3 RX4 cX4_toBeLost (some .int)) : ∀ (n : Nat) (y1 : Int32) (y2 : Int32) (h : th_H), fX4_toBeLost_c4 n y1 y2 h = some (rr, hh) → th_V p0 l e { frames := 0, cells := 0, slots := 0, locals := 0 } s m args below meth c D cI cZ ad LM 3 (some (.int rr)) hh 4 [.ref 0, .int y1, .int y2] [] h := by
  intro n
  induction n with
  | zero => intro y1 y2 h hf; cases hf
  | succ n ih =>
    intro y1 y2 h hf
    rw [fX4_toBeLost_c4] at hf
    refine V_iload_n (pc := 4) X (th_da dtX4_toBeLost 4 rfl) rfl ?_
    refine V_bipush (pc := 5) (v := 10) X (th_da dtX4_toBeLost 5 rfl) (by decide) ?_
    refine V_icmp_ge (pc := 7) (tgt := 28) X (th_da dtX4_toBeLost 6 rfl) (by decide) (fun c1 => ?_) (fun c1 => ?_)
    · rw [if_pos c1] at hf
      refine V_iload_n (pc := 10) X (th_da dtX4_toBeLost 7 rfl) rfl ?_
      refine V_aload_n (pc := 11) X (th_da dtX4_toBeLost 8 rfl) rfl ?_
      refine V_getR (pc := 12) (j := 2) (t := 2) X (th_da dtX4_toBeLost 9 rfl) wfl_X4_15 iX4 rfl rfl (Nat.le_of_ble_eq_true rfl) rfl ?_
      refine V_bipush (pc := 15) (v := 13) X (th_da dtX4_toBeLost 10 rfl) (by decide) ?_
      refine V_iload_n (pc := 17) X (th_da dtX4_toBeLost 11 rfl) rfl ?_
      refine V_iadd (pc := 18) X (th_da dtX4_toBeLost 12 rfl) ?_
      obtain ⟨v2, e2, g2, hf⟩ := th_rd_some hf
      refine V_iald (pc := 19) X (th_da dtX4_toBeLost 13 rfl) rfl g2 e2 ?_
      refine V_iadd (pc := 20) X (th_da dtX4_toBeLost 14 rfl) ?_
      refine V_istore_n (pc := 21) (ls2 := [.ref 0, .int (y1 + v2), .int y2]) X (th_da dtX4_toBeLost 15 rfl) (Nat.le_of_ble_eq_true rfl) rfl rfl ?_
      refine V_iinc (pc := 22) (v := y2 + 1) (ls2 := [.ref 0, .int (y1 + v2), .int (y2 + 1)]) X (th_da dtX4_toBeLost 16 rfl) rfl rfl (Nat.le_of_ble_eq_true rfl) rfl rfl ?_
      refine V_goto (pc := 25) (tgt := 4) X (th_da dtX4_toBeLost 17 rfl) (by decide) ?_
      exact ih _ _ _ hf
    · rw [if_neg c1] at hf
      refine V_iload_n (pc := 28) X (th_da dtX4_toBeLost 18 rfl) rfl ?_
      exact V_iretF (pc := 29) X (th_da dtX4_toBeLost 19 rfl) hf
set_option maxHeartbeats 4000000 in
set_option maxRecDepth 100000 in
theorem mX4_toBeLost (l : Launch) (h : th_H) (rr : Int32) (hh : th_H) (hf : fX4_toBeLost h = some (rr, hh)) : th_MI l LM yX4_toBeLost cX4_toBeLost 3 (some .int) 0 0 [.ref 0] h (some (.int rr)) hh := by
  refine th_MI_of (ls := [.ref 0, .null, .null]) RX4 rfl rfl rfl (Nat.le_of_ble_eq_true rfl) ?_
  intro p0 e s m args below meth c D cI cZ ad X
  unfold fX4_toBeLost at hf
  refine V_iconst (pc := 0) (v := 0) X (th_da dtX4_toBeLost 0 rfl) (by decide) ?_
  refine V_istore_n (pc := 1) (ls2 := [.ref 0, .int 0, .null]) X (th_da dtX4_toBeLost 1 rfl) (Nat.le_of_ble_eq_true rfl) rfl rfl ?_
  refine V_iconst (pc := 2) (v := 0) X (th_da dtX4_toBeLost 2 rfl) (by decide) ?_
  refine V_istore_n (pc := 3) (ls2 := [.ref 0, .int 0, .int 0]) X (th_da dtX4_toBeLost 3 rfl) (Nat.le_of_ble_eq_true rfl) rfl rfl ?_
  exact tX4_toBeLost_c4 X _ _ _ _ hf
end
def fX4_count (x1 : Int32) (h : th_H) : Option (Int32 × th_H) :=
  th_st (th_up h 0 0 0) fun h1 =>
  if x1 = 0 then
    th_bd (fX4_flowMany h1) fun u3 h3 =>
    some (u3, h3)
  else
  if x1 = 1 then
    th_bd (fX4_heldMany h1) fun u5 h5 =>
    some (u5, h5)
  else
  if x1 = 2 then
    th_bd (fX4_linksWithFlows h1) fun u7 h7 =>
    some (u7, h7)
  else
  if x1 = 3 then
    th_rd h1 2 643 0 fun v9 =>
    some (v9, h1)
  else
  if x1 = 4 then
    th_rd h1 2 643 1 fun v11 =>
    some (v11, h1)
  else
  if x1 = 5 then
    th_bd (fX4_marksAll h1) fun u13 h13 =>
    some (u13, h13)
  else
  if x1 = 6 then
    th_bd (fX4_in (Int32.toInt64 x1) 6 10 h1) fun u15 h15 =>
    if (u15 = 0 : Prop) then
      some ((-1), h15)
    else
      th_rd h15 1 5 (x1 - 6) fun v17 =>
      some (v17, h15)
  else
  if x1 = 7 then
    th_bd (fX4_in (Int32.toInt64 x1) 6 10 h1) fun u19 h19 =>
    if (u19 = 0 : Prop) then
      some ((-1), h19)
    else
      th_rd h19 1 5 (x1 - 6) fun v21 =>
      some (v21, h19)
  else
  if x1 = 8 then
    th_bd (fX4_in (Int32.toInt64 x1) 6 10 h1) fun u23 h23 =>
    if (u23 = 0 : Prop) then
      some ((-1), h23)
    else
      th_rd h23 1 5 (x1 - 6) fun v25 =>
      some (v25, h23)
  else
  if x1 = 9 then
    th_bd (fX4_in (Int32.toInt64 x1) 6 10 h1) fun u27 h27 =>
    if (u27 = 0 : Prop) then
      some ((-1), h27)
    else
      th_rd h27 1 5 (x1 - 6) fun v29 =>
      some (v29, h27)
  else
  if x1 = 10 then
    th_bd (fX4_in (Int32.toInt64 x1) 6 10 h1) fun u31 h31 =>
    if (u31 = 0 : Prop) then
      some ((-1), h31)
    else
      th_rd h31 1 5 (x1 - 6) fun v33 =>
      some (v33, h31)
  else
  if x1 = 11 then
    th_rd h1 2 643 2 fun v35 =>
    some (v35, h1)
  else
  if x1 = 12 then
    th_bd (fX4_underWay h1) fun u37 h37 =>
    some (u37, h37)
  else
  if x1 = 13 then
    th_bd (fX4_toBeLost h1) fun u39 h39 =>
    some (u39, h39)
  else
  th_bd (fX4_in (Int32.toInt64 x1) 6 10 h1) fun u40 h40 =>
  if (u40 = 0 : Prop) then
    some ((-1), h40)
  else
    th_rd h40 1 5 (x1 - 6) fun v42 =>
    some (v42, h40)
def tbX4_count : List (Nat × Instr × Nat) := [(0, .aload_n 0, 1), (1, .iconst 0, 1), (2, .putfield 55, 3), (5, .iload_n 1, 1), (6, .tableswitch 121 0 13 #[70, 75, 80, 85, 92, 99, 121, 121, 121, 121, 121, 104, 111, 116], 70), (76, .aload_n 0, 1), (77, .invokevirtual 128, 3), (80, .ireturn, 1), (81, .aload_n 0, 1), (82, .invokevirtual 137, 3), (85, .ireturn, 1), (86, .aload_n 0, 1), (87, .invokevirtual 281, 3), (90, .ireturn, 1), (91, .aload_n 0, 1), (92, .getfield 15, 3), (95, .iconst 0, 1), (96, .iaload, 1), (97, .ireturn, 1), (98, .aload_n 0, 1), (99, .getfield 15, 3), (102, .iconst 1, 1), (103, .iaload, 1), (104, .ireturn, 1), (105, .aload_n 0, 1), (106, .invokevirtual 284, 3), (109, .ireturn, 1), (110, .aload_n 0, 1), (111, .getfield 15, 3), (114, .iconst 2, 1), (115, .iaload, 1), (116, .ireturn, 1), (117, .aload_n 0, 1), (118, .invokevirtual 287, 3), (121, .ireturn, 1), (122, .aload_n 0, 1), (123, .invokevirtual 290, 3), (126, .ireturn, 1), (127, .iload_n 1, 1), (128, .i2l, 1), (129, .ldc2_w 293, 3), (132, .ldc2_w 295, 3), (135, .invokestatic 63, 3), (138, .ifCond .eq 15, 3), (141, .aload_n 0, 1), (142, .getfield 9, 3), (145, .iload_n 1, 1), (146, .bipush 6, 2), (148, .isub, 1), (149, .iaload, 1), (150, .goto 4, 3), (153, .iconst (-1), 1), (154, .ireturn, 1)]
theorem dtX4_count : th_dec cX4_count tbX4_count = true := by decide +kernel
section
variable {p0 : Program} {l : Launch} {e : Env} {s : State} {m : MethodId} {args : Array Value} {below : List Frame} {meth : Method} {c : Code} {D : va_G} {cI cZ : ClassId} {ad : Nat → Nat} {rr : Int32} {hh : th_H}
set_option maxHeartbeats 4000000 in
set_option maxRecDepth 100000 in
theorem mX4_count (l : Launch) (x1 : Int32) (h : th_H) (rr : Int32) (hh : th_H) (hf : fX4_count x1 h = some (rr, hh)) : th_MI l LM yX4_count cX4_count 2 (some .int) 5 116 [.ref 0, .int x1] h (some (.int rr)) hh := by
  refine th_MI_of (ls := [.ref 0, .int x1]) RX4 rfl rfl rfl (Nat.le_of_ble_eq_true rfl) ?_
  intro p0 e s m args below meth c D cI cZ ad X
  unfold fX4_count at hf
  refine V_aload_n (pc := 0) X (th_da dtX4_count 0 rfl) rfl ?_
  refine V_iconst (pc := 1) (v := 0) X (th_da dtX4_count 1 rfl) (by decide) ?_
  obtain ⟨h1, e1, hf⟩ := th_st_some hf
  refine V_putI (pc := 2) (j := 0) (ty := .int) X (th_da dtX4_count 2 rfl) wfl_X4_55 iX4 rfl rfl (Nat.le_of_ble_eq_true rfl) rfl tyX4 tyX4_ok nmX4 rfl (tyX4_ok 0 (Nat.le_of_ble_eq_true rfl)) rfl rfl e1 ?_
  refine V_iload_n (pc := 5) X (th_da dtX4_count 3 rfl) rfl ?_
  by_cases c2 : x1 = 0
  · rw [if_pos c2] at hf
    refine V_tabIn (pc := 6) (tgt := 76) X (th_da dtX4_count 4 rfl) c2 (by decide) (by decide) rfl (by decide) ?_
    refine V_aload_n (pc := 76) X (th_da dtX4_count 5 rfl) rfl ?_
    obtain ⟨u3, h3, e3, hf⟩ := th_bd_some hf
    refine V_callVi (pc := 77) (q := 0) (As := []) X (th_da dtX4_count 6 rfl) (mX4_flowMany l _ _ _ e3) wcd_X4_flowMany wml_X4_128 wim_X4_flowMany wse_X4_flowMany win_X4_flowMany hd_X4_flowMany ⟨Nat.le_of_ble_eq_true rfl, Nat.le_of_ble_eq_true rfl⟩ (Nat.le_of_ble_eq_true rfl) rfl rfl rfl ?_
    exact V_iretF (pc := 80) X (th_da dtX4_count 7 rfl) hf
  · rw [if_neg c2] at hf
    by_cases c4 : x1 = 1
    · rw [if_pos c4] at hf
      refine V_tabIn (pc := 6) (tgt := 81) X (th_da dtX4_count 4 rfl) c4 (by decide) (by decide) rfl (by decide) ?_
      refine V_aload_n (pc := 81) X (th_da dtX4_count 8 rfl) rfl ?_
      obtain ⟨u5, h5, e5, hf⟩ := th_bd_some hf
      refine V_callVi (pc := 82) (q := 0) (As := []) X (th_da dtX4_count 9 rfl) (mX4_heldMany l _ _ _ e5) wcd_X4_heldMany wml_X4_137 wim_X4_heldMany wse_X4_heldMany win_X4_heldMany hd_X4_heldMany ⟨Nat.le_of_ble_eq_true rfl, Nat.le_of_ble_eq_true rfl⟩ (Nat.le_of_ble_eq_true rfl) rfl rfl rfl ?_
      exact V_iretF (pc := 85) X (th_da dtX4_count 10 rfl) hf
    · rw [if_neg c4] at hf
      by_cases c6 : x1 = 2
      · rw [if_pos c6] at hf
        refine V_tabIn (pc := 6) (tgt := 86) X (th_da dtX4_count 4 rfl) c6 (by decide) (by decide) rfl (by decide) ?_
        refine V_aload_n (pc := 86) X (th_da dtX4_count 11 rfl) rfl ?_
        obtain ⟨u7, h7, e7, hf⟩ := th_bd_some hf
        refine V_callVi (pc := 87) (q := 0) (As := []) X (th_da dtX4_count 12 rfl) (mX4_linksWithFlows l _ _ _ e7) wcd_X4_linksWithFlows wml_X4_281 wim_X4_linksWithFlows wse_X4_linksWithFlows win_X4_linksWithFlows hd_X4_linksWithFlows ⟨Nat.le_of_ble_eq_true rfl, Nat.le_of_ble_eq_true rfl⟩ (Nat.le_of_ble_eq_true rfl) rfl rfl rfl ?_
        exact V_iretF (pc := 90) X (th_da dtX4_count 13 rfl) hf
      · rw [if_neg c6] at hf
        by_cases c8 : x1 = 3
        · rw [if_pos c8] at hf
          refine V_tabIn (pc := 6) (tgt := 91) X (th_da dtX4_count 4 rfl) c8 (by decide) (by decide) rfl (by decide) ?_
          refine V_aload_n (pc := 91) X (th_da dtX4_count 14 rfl) rfl ?_
          refine V_getR (pc := 92) (j := 2) (t := 2) X (th_da dtX4_count 15 rfl) wfl_X4_15 iX4 rfl rfl (Nat.le_of_ble_eq_true rfl) rfl ?_
          refine V_iconst (pc := 95) (v := 0) X (th_da dtX4_count 16 rfl) (by decide) ?_
          obtain ⟨v9, e9, g9, hf⟩ := th_rd_some hf
          refine V_iald (pc := 96) X (th_da dtX4_count 17 rfl) rfl g9 e9 ?_
          exact V_iretF (pc := 97) X (th_da dtX4_count 18 rfl) hf
        · rw [if_neg c8] at hf
          by_cases c10 : x1 = 4
          · rw [if_pos c10] at hf
            refine V_tabIn (pc := 6) (tgt := 98) X (th_da dtX4_count 4 rfl) c10 (by decide) (by decide) rfl (by decide) ?_
            refine V_aload_n (pc := 98) X (th_da dtX4_count 19 rfl) rfl ?_
            refine V_getR (pc := 99) (j := 2) (t := 2) X (th_da dtX4_count 20 rfl) wfl_X4_15 iX4 rfl rfl (Nat.le_of_ble_eq_true rfl) rfl ?_
            refine V_iconst (pc := 102) (v := 1) X (th_da dtX4_count 21 rfl) (by decide) ?_
            obtain ⟨v11, e11, g11, hf⟩ := th_rd_some hf
            refine V_iald (pc := 103) X (th_da dtX4_count 22 rfl) rfl g11 e11 ?_
            exact V_iretF (pc := 104) X (th_da dtX4_count 23 rfl) hf
          · rw [if_neg c10] at hf
            by_cases c12 : x1 = 5
            · rw [if_pos c12] at hf
              refine V_tabIn (pc := 6) (tgt := 105) X (th_da dtX4_count 4 rfl) c12 (by decide) (by decide) rfl (by decide) ?_
              refine V_aload_n (pc := 105) X (th_da dtX4_count 24 rfl) rfl ?_
              obtain ⟨u13, h13, e13, hf⟩ := th_bd_some hf
              refine V_callVi (pc := 106) (q := 0) (As := []) X (th_da dtX4_count 25 rfl) (mX4_marksAll l _ _ _ e13) wcd_X4_marksAll wml_X4_284 wim_X4_marksAll wse_X4_marksAll win_X4_marksAll hd_X4_marksAll ⟨Nat.le_of_ble_eq_true rfl, Nat.le_of_ble_eq_true rfl⟩ (Nat.le_of_ble_eq_true rfl) rfl rfl rfl ?_
              exact V_iretF (pc := 109) X (th_da dtX4_count 26 rfl) hf
            · rw [if_neg c12] at hf
              by_cases c14 : x1 = 6
              · rw [if_pos c14] at hf
                refine V_tabIn (pc := 6) (tgt := 127) X (th_da dtX4_count 4 rfl) c14 (by decide) (by decide) rfl (by decide) ?_
                refine V_iload_n (pc := 127) X (th_da dtX4_count 38 rfl) rfl ?_
                refine V_i2l (pc := 128) X (th_da dtX4_count 39 rfl) ?_
                refine V_ldc2 (pc := 129) (v := 6) X (th_da dtX4_count 40 rfl) wcl_X4_293 ?_
                refine V_ldc2 (pc := 132) (v := 10) X (th_da dtX4_count 41 rfl) wcl_X4_295 ?_
                obtain ⟨u15, h15, e15, hf⟩ := th_bd_some hf
                refine V_callSi (pc := 135) (As := [.long (Int32.toInt64 x1), .long 6, .long 10]) X (th_da dtX4_count 42 rfl) (mX4_in l _ _ _ _ _ _ e15) wcd_X4_in wml_X4_63 wst_X4_in win_X4_in hd_X4_in ⟨Nat.le_of_ble_eq_true rfl, Nat.le_of_ble_eq_true rfl⟩ (Nat.le_of_ble_eq_true rfl) rfl ?_
                refine V_if_eq (pc := 138) (tgt := 153) X (th_da dtX4_count 43 rfl) (by decide) (fun c16 => ?_) (fun c16 => ?_)
                · rw [if_pos c16] at hf
                  refine V_iconst (pc := 153) (v := (-1)) X (th_da dtX4_count 51 rfl) (by decide) ?_
                  exact V_iretF (pc := 154) X (th_da dtX4_count 52 rfl) hf
                · rw [if_neg c16] at hf
                  refine V_aload_n (pc := 141) X (th_da dtX4_count 44 rfl) rfl ?_
                  refine V_getR (pc := 142) (j := 1) (t := 1) X (th_da dtX4_count 45 rfl) wfl_X4_9 iX4 rfl rfl (Nat.le_of_ble_eq_true rfl) rfl ?_
                  refine V_iload_n (pc := 145) X (th_da dtX4_count 46 rfl) rfl ?_
                  refine V_bipush (pc := 146) (v := 6) X (th_da dtX4_count 47 rfl) (by decide) ?_
                  refine V_isub (pc := 148) X (th_da dtX4_count 48 rfl) ?_
                  obtain ⟨v17, e17, g17, hf⟩ := th_rd_some hf
                  refine V_iald (pc := 149) X (th_da dtX4_count 49 rfl) rfl g17 e17 ?_
                  refine V_goto (pc := 150) (tgt := 154) X (th_da dtX4_count 50 rfl) (by decide) ?_
                  exact V_iretF (pc := 154) X (th_da dtX4_count 52 rfl) hf
              · rw [if_neg c14] at hf
                by_cases c18 : x1 = 7
                · rw [if_pos c18] at hf
                  refine V_tabIn (pc := 6) (tgt := 127) X (th_da dtX4_count 4 rfl) c18 (by decide) (by decide) rfl (by decide) ?_
                  refine V_iload_n (pc := 127) X (th_da dtX4_count 38 rfl) rfl ?_
                  refine V_i2l (pc := 128) X (th_da dtX4_count 39 rfl) ?_
                  refine V_ldc2 (pc := 129) (v := 6) X (th_da dtX4_count 40 rfl) wcl_X4_293 ?_
                  refine V_ldc2 (pc := 132) (v := 10) X (th_da dtX4_count 41 rfl) wcl_X4_295 ?_
                  obtain ⟨u19, h19, e19, hf⟩ := th_bd_some hf
                  refine V_callSi (pc := 135) (As := [.long (Int32.toInt64 x1), .long 6, .long 10]) X (th_da dtX4_count 42 rfl) (mX4_in l _ _ _ _ _ _ e19) wcd_X4_in wml_X4_63 wst_X4_in win_X4_in hd_X4_in ⟨Nat.le_of_ble_eq_true rfl, Nat.le_of_ble_eq_true rfl⟩ (Nat.le_of_ble_eq_true rfl) rfl ?_
                  refine V_if_eq (pc := 138) (tgt := 153) X (th_da dtX4_count 43 rfl) (by decide) (fun c20 => ?_) (fun c20 => ?_)
                  · rw [if_pos c20] at hf
                    refine V_iconst (pc := 153) (v := (-1)) X (th_da dtX4_count 51 rfl) (by decide) ?_
                    exact V_iretF (pc := 154) X (th_da dtX4_count 52 rfl) hf
                  · rw [if_neg c20] at hf
                    refine V_aload_n (pc := 141) X (th_da dtX4_count 44 rfl) rfl ?_
                    refine V_getR (pc := 142) (j := 1) (t := 1) X (th_da dtX4_count 45 rfl) wfl_X4_9 iX4 rfl rfl (Nat.le_of_ble_eq_true rfl) rfl ?_
                    refine V_iload_n (pc := 145) X (th_da dtX4_count 46 rfl) rfl ?_
                    refine V_bipush (pc := 146) (v := 6) X (th_da dtX4_count 47 rfl) (by decide) ?_
                    refine V_isub (pc := 148) X (th_da dtX4_count 48 rfl) ?_
                    obtain ⟨v21, e21, g21, hf⟩ := th_rd_some hf
                    refine V_iald (pc := 149) X (th_da dtX4_count 49 rfl) rfl g21 e21 ?_
                    refine V_goto (pc := 150) (tgt := 154) X (th_da dtX4_count 50 rfl) (by decide) ?_
                    exact V_iretF (pc := 154) X (th_da dtX4_count 52 rfl) hf
                · rw [if_neg c18] at hf
                  by_cases c22 : x1 = 8
                  · rw [if_pos c22] at hf
                    refine V_tabIn (pc := 6) (tgt := 127) X (th_da dtX4_count 4 rfl) c22 (by decide) (by decide) rfl (by decide) ?_
                    refine V_iload_n (pc := 127) X (th_da dtX4_count 38 rfl) rfl ?_
                    refine V_i2l (pc := 128) X (th_da dtX4_count 39 rfl) ?_
                    refine V_ldc2 (pc := 129) (v := 6) X (th_da dtX4_count 40 rfl) wcl_X4_293 ?_
                    refine V_ldc2 (pc := 132) (v := 10) X (th_da dtX4_count 41 rfl) wcl_X4_295 ?_
                    obtain ⟨u23, h23, e23, hf⟩ := th_bd_some hf
                    refine V_callSi (pc := 135) (As := [.long (Int32.toInt64 x1), .long 6, .long 10]) X (th_da dtX4_count 42 rfl) (mX4_in l _ _ _ _ _ _ e23) wcd_X4_in wml_X4_63 wst_X4_in win_X4_in hd_X4_in ⟨Nat.le_of_ble_eq_true rfl, Nat.le_of_ble_eq_true rfl⟩ (Nat.le_of_ble_eq_true rfl) rfl ?_
                    refine V_if_eq (pc := 138) (tgt := 153) X (th_da dtX4_count 43 rfl) (by decide) (fun c24 => ?_) (fun c24 => ?_)
                    · rw [if_pos c24] at hf
                      refine V_iconst (pc := 153) (v := (-1)) X (th_da dtX4_count 51 rfl) (by decide) ?_
                      exact V_iretF (pc := 154) X (th_da dtX4_count 52 rfl) hf
                    · rw [if_neg c24] at hf
                      refine V_aload_n (pc := 141) X (th_da dtX4_count 44 rfl) rfl ?_
                      refine V_getR (pc := 142) (j := 1) (t := 1) X (th_da dtX4_count 45 rfl) wfl_X4_9 iX4 rfl rfl (Nat.le_of_ble_eq_true rfl) rfl ?_
                      refine V_iload_n (pc := 145) X (th_da dtX4_count 46 rfl) rfl ?_
                      refine V_bipush (pc := 146) (v := 6) X (th_da dtX4_count 47 rfl) (by decide) ?_
                      refine V_isub (pc := 148) X (th_da dtX4_count 48 rfl) ?_
                      obtain ⟨v25, e25, g25, hf⟩ := th_rd_some hf
                      refine V_iald (pc := 149) X (th_da dtX4_count 49 rfl) rfl g25 e25 ?_
                      refine V_goto (pc := 150) (tgt := 154) X (th_da dtX4_count 50 rfl) (by decide) ?_
                      exact V_iretF (pc := 154) X (th_da dtX4_count 52 rfl) hf
                  · rw [if_neg c22] at hf
                    by_cases c26 : x1 = 9
                    · rw [if_pos c26] at hf
                      refine V_tabIn (pc := 6) (tgt := 127) X (th_da dtX4_count 4 rfl) c26 (by decide) (by decide) rfl (by decide) ?_
                      refine V_iload_n (pc := 127) X (th_da dtX4_count 38 rfl) rfl ?_
                      refine V_i2l (pc := 128) X (th_da dtX4_count 39 rfl) ?_
                      refine V_ldc2 (pc := 129) (v := 6) X (th_da dtX4_count 40 rfl) wcl_X4_293 ?_
                      refine V_ldc2 (pc := 132) (v := 10) X (th_da dtX4_count 41 rfl) wcl_X4_295 ?_
                      obtain ⟨u27, h27, e27, hf⟩ := th_bd_some hf
                      refine V_callSi (pc := 135) (As := [.long (Int32.toInt64 x1), .long 6, .long 10]) X (th_da dtX4_count 42 rfl) (mX4_in l _ _ _ _ _ _ e27) wcd_X4_in wml_X4_63 wst_X4_in win_X4_in hd_X4_in ⟨Nat.le_of_ble_eq_true rfl, Nat.le_of_ble_eq_true rfl⟩ (Nat.le_of_ble_eq_true rfl) rfl ?_
                      refine V_if_eq (pc := 138) (tgt := 153) X (th_da dtX4_count 43 rfl) (by decide) (fun c28 => ?_) (fun c28 => ?_)
                      · rw [if_pos c28] at hf
                        refine V_iconst (pc := 153) (v := (-1)) X (th_da dtX4_count 51 rfl) (by decide) ?_
                        exact V_iretF (pc := 154) X (th_da dtX4_count 52 rfl) hf
                      · rw [if_neg c28] at hf
                        refine V_aload_n (pc := 141) X (th_da dtX4_count 44 rfl) rfl ?_
                        refine V_getR (pc := 142) (j := 1) (t := 1) X (th_da dtX4_count 45 rfl) wfl_X4_9 iX4 rfl rfl (Nat.le_of_ble_eq_true rfl) rfl ?_
                        refine V_iload_n (pc := 145) X (th_da dtX4_count 46 rfl) rfl ?_
                        refine V_bipush (pc := 146) (v := 6) X (th_da dtX4_count 47 rfl) (by decide) ?_
                        refine V_isub (pc := 148) X (th_da dtX4_count 48 rfl) ?_
                        obtain ⟨v29, e29, g29, hf⟩ := th_rd_some hf
                        refine V_iald (pc := 149) X (th_da dtX4_count 49 rfl) rfl g29 e29 ?_
                        refine V_goto (pc := 150) (tgt := 154) X (th_da dtX4_count 50 rfl) (by decide) ?_
                        exact V_iretF (pc := 154) X (th_da dtX4_count 52 rfl) hf
                    · rw [if_neg c26] at hf
                      by_cases c30 : x1 = 10
                      · rw [if_pos c30] at hf
                        refine V_tabIn (pc := 6) (tgt := 127) X (th_da dtX4_count 4 rfl) c30 (by decide) (by decide) rfl (by decide) ?_
                        refine V_iload_n (pc := 127) X (th_da dtX4_count 38 rfl) rfl ?_
                        refine V_i2l (pc := 128) X (th_da dtX4_count 39 rfl) ?_
                        refine V_ldc2 (pc := 129) (v := 6) X (th_da dtX4_count 40 rfl) wcl_X4_293 ?_
                        refine V_ldc2 (pc := 132) (v := 10) X (th_da dtX4_count 41 rfl) wcl_X4_295 ?_
                        obtain ⟨u31, h31, e31, hf⟩ := th_bd_some hf
                        refine V_callSi (pc := 135) (As := [.long (Int32.toInt64 x1), .long 6, .long 10]) X (th_da dtX4_count 42 rfl) (mX4_in l _ _ _ _ _ _ e31) wcd_X4_in wml_X4_63 wst_X4_in win_X4_in hd_X4_in ⟨Nat.le_of_ble_eq_true rfl, Nat.le_of_ble_eq_true rfl⟩ (Nat.le_of_ble_eq_true rfl) rfl ?_
                        refine V_if_eq (pc := 138) (tgt := 153) X (th_da dtX4_count 43 rfl) (by decide) (fun c32 => ?_) (fun c32 => ?_)
                        · rw [if_pos c32] at hf
                          refine V_iconst (pc := 153) (v := (-1)) X (th_da dtX4_count 51 rfl) (by decide) ?_
                          exact V_iretF (pc := 154) X (th_da dtX4_count 52 rfl) hf
                        · rw [if_neg c32] at hf
                          refine V_aload_n (pc := 141) X (th_da dtX4_count 44 rfl) rfl ?_
                          refine V_getR (pc := 142) (j := 1) (t := 1) X (th_da dtX4_count 45 rfl) wfl_X4_9 iX4 rfl rfl (Nat.le_of_ble_eq_true rfl) rfl ?_
                          refine V_iload_n (pc := 145) X (th_da dtX4_count 46 rfl) rfl ?_
                          refine V_bipush (pc := 146) (v := 6) X (th_da dtX4_count 47 rfl) (by decide) ?_
                          refine V_isub (pc := 148) X (th_da dtX4_count 48 rfl) ?_
                          obtain ⟨v33, e33, g33, hf⟩ := th_rd_some hf
                          refine V_iald (pc := 149) X (th_da dtX4_count 49 rfl) rfl g33 e33 ?_
                          refine V_goto (pc := 150) (tgt := 154) X (th_da dtX4_count 50 rfl) (by decide) ?_
                          exact V_iretF (pc := 154) X (th_da dtX4_count 52 rfl) hf
                      · rw [if_neg c30] at hf
                        by_cases c34 : x1 = 11
                        · rw [if_pos c34] at hf
                          refine V_tabIn (pc := 6) (tgt := 110) X (th_da dtX4_count 4 rfl) c34 (by decide) (by decide) rfl (by decide) ?_
                          refine V_aload_n (pc := 110) X (th_da dtX4_count 27 rfl) rfl ?_
                          refine V_getR (pc := 111) (j := 2) (t := 2) X (th_da dtX4_count 28 rfl) wfl_X4_15 iX4 rfl rfl (Nat.le_of_ble_eq_true rfl) rfl ?_
                          refine V_iconst (pc := 114) (v := 2) X (th_da dtX4_count 29 rfl) (by decide) ?_
                          obtain ⟨v35, e35, g35, hf⟩ := th_rd_some hf
                          refine V_iald (pc := 115) X (th_da dtX4_count 30 rfl) rfl g35 e35 ?_
                          exact V_iretF (pc := 116) X (th_da dtX4_count 31 rfl) hf
                        · rw [if_neg c34] at hf
                          by_cases c36 : x1 = 12
                          · rw [if_pos c36] at hf
                            refine V_tabIn (pc := 6) (tgt := 117) X (th_da dtX4_count 4 rfl) c36 (by decide) (by decide) rfl (by decide) ?_
                            refine V_aload_n (pc := 117) X (th_da dtX4_count 32 rfl) rfl ?_
                            obtain ⟨u37, h37, e37, hf⟩ := th_bd_some hf
                            refine V_callVi (pc := 118) (q := 0) (As := []) X (th_da dtX4_count 33 rfl) (mX4_underWay l _ _ _ e37) wcd_X4_underWay wml_X4_287 wim_X4_underWay wse_X4_underWay win_X4_underWay hd_X4_underWay ⟨Nat.le_of_ble_eq_true rfl, Nat.le_of_ble_eq_true rfl⟩ (Nat.le_of_ble_eq_true rfl) rfl rfl rfl ?_
                            exact V_iretF (pc := 121) X (th_da dtX4_count 34 rfl) hf
                          · rw [if_neg c36] at hf
                            by_cases c38 : x1 = 13
                            · rw [if_pos c38] at hf
                              refine V_tabIn (pc := 6) (tgt := 122) X (th_da dtX4_count 4 rfl) c38 (by decide) (by decide) rfl (by decide) ?_
                              refine V_aload_n (pc := 122) X (th_da dtX4_count 35 rfl) rfl ?_
                              obtain ⟨u39, h39, e39, hf⟩ := th_bd_some hf
                              refine V_callVi (pc := 123) (q := 0) (As := []) X (th_da dtX4_count 36 rfl) (mX4_toBeLost l _ _ _ e39) wcd_X4_toBeLost wml_X4_290 wim_X4_toBeLost wse_X4_toBeLost win_X4_toBeLost hd_X4_toBeLost ⟨Nat.le_of_ble_eq_true rfl, Nat.le_of_ble_eq_true rfl⟩ (Nat.le_of_ble_eq_true rfl) rfl rfl rfl ?_
                              exact V_iretF (pc := 126) X (th_da dtX4_count 37 rfl) hf
                            · rw [if_neg c38] at hf
                              have n2 := lv_neT c2 (show (0 : Int32).toInt = 0 from rfl)
                              have n4 := lv_neT c4 (show (1 : Int32).toInt = 1 from rfl)
                              have n6 := lv_neT c6 (show (2 : Int32).toInt = 2 from rfl)
                              have n8 := lv_neT c8 (show (3 : Int32).toInt = 3 from rfl)
                              have n10 := lv_neT c10 (show (4 : Int32).toInt = 4 from rfl)
                              have n12 := lv_neT c12 (show (5 : Int32).toInt = 5 from rfl)
                              have n14 := lv_neT c14 (show (6 : Int32).toInt = 6 from rfl)
                              have n18 := lv_neT c18 (show (7 : Int32).toInt = 7 from rfl)
                              have n22 := lv_neT c22 (show (8 : Int32).toInt = 8 from rfl)
                              have n26 := lv_neT c26 (show (9 : Int32).toInt = 9 from rfl)
                              have n30 := lv_neT c30 (show (10 : Int32).toInt = 10 from rfl)
                              have n34 := lv_neT c34 (show (11 : Int32).toInt = 11 from rfl)
                              have n36 := lv_neT c36 (show (12 : Int32).toInt = 12 from rfl)
                              have n38 := lv_neT c38 (show (13 : Int32).toInt = 13 from rfl)
                              refine V_tabOut (pc := 6) (tgt := 127) X (th_da dtX4_count 4 rfl) (by omega) (by decide) ?_
                              refine V_iload_n (pc := 127) X (th_da dtX4_count 38 rfl) rfl ?_
                              refine V_i2l (pc := 128) X (th_da dtX4_count 39 rfl) ?_
                              refine V_ldc2 (pc := 129) (v := 6) X (th_da dtX4_count 40 rfl) wcl_X4_293 ?_
                              refine V_ldc2 (pc := 132) (v := 10) X (th_da dtX4_count 41 rfl) wcl_X4_295 ?_
                              obtain ⟨u40, h40, e40, hf⟩ := th_bd_some hf
                              refine V_callSi (pc := 135) (As := [.long (Int32.toInt64 x1), .long 6, .long 10]) X (th_da dtX4_count 42 rfl) (mX4_in l _ _ _ _ _ _ e40) wcd_X4_in wml_X4_63 wst_X4_in win_X4_in hd_X4_in ⟨Nat.le_of_ble_eq_true rfl, Nat.le_of_ble_eq_true rfl⟩ (Nat.le_of_ble_eq_true rfl) rfl ?_
                              refine V_if_eq (pc := 138) (tgt := 153) X (th_da dtX4_count 43 rfl) (by decide) (fun c41 => ?_) (fun c41 => ?_)
                              · rw [if_pos c41] at hf
                                refine V_iconst (pc := 153) (v := (-1)) X (th_da dtX4_count 51 rfl) (by decide) ?_
                                exact V_iretF (pc := 154) X (th_da dtX4_count 52 rfl) hf
                              · rw [if_neg c41] at hf
                                refine V_aload_n (pc := 141) X (th_da dtX4_count 44 rfl) rfl ?_
                                refine V_getR (pc := 142) (j := 1) (t := 1) X (th_da dtX4_count 45 rfl) wfl_X4_9 iX4 rfl rfl (Nat.le_of_ble_eq_true rfl) rfl ?_
                                refine V_iload_n (pc := 145) X (th_da dtX4_count 46 rfl) rfl ?_
                                refine V_bipush (pc := 146) (v := 6) X (th_da dtX4_count 47 rfl) (by decide) ?_
                                refine V_isub (pc := 148) X (th_da dtX4_count 48 rfl) ?_
                                obtain ⟨v42, e42, g42, hf⟩ := th_rd_some hf
                                refine V_iald (pc := 149) X (th_da dtX4_count 49 rfl) rfl g42 e42 ?_
                                refine V_goto (pc := 150) (tgt := 154) X (th_da dtX4_count 50 rfl) (by decide) ?_
                                exact V_iretF (pc := 154) X (th_da dtX4_count 52 rfl) hf
end
