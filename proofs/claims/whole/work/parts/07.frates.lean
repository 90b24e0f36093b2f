def fX3_isAmount (x0 : Int32) (h : th_H) : Option (Int32 × th_H) :=
  if (x0 < 0 : Prop) then
    some (0, h)
  else
    if (1000000 < x0 : Prop) then
      some (0, h)
    else
      some (1, h)
def tbX3_isAmount : List (Nat × Instr × Nat) := [(0, .iload_n 0, 1), (1, .ifCond .lt 14, 3), (4, .iload_n 0, 1), (5, .ldc_w 277, 3), (8, .if_icmp .gt 7, 3), (11, .iconst 1, 1), (12, .goto 4, 3), (15, .iconst 0, 1), (16, .ireturn, 1)]
theorem dtX3_isAmount : th_dec cX3_isAmount tbX3_isAmount = true := by decide +kernel
section
variable {p0 : Program} {l : Launch} {e : Env} {s : State} {m : MethodId} {args : Array Value} {below : List Frame} {meth : Method} {c : Code} {D : va_G} {cI cZ : ClassId} {ad : Nat → Nat} {rr : Int32} {hh : th_H}
set_option maxHeartbeats 4000000 in
set_option maxRecDepth 100000 in
theorem mX3_isAmount (l : Launch) (x0 : Int32) (h : th_H) (rr : Int32) (hh : th_H) (hf : fX3_isAmount x0 h = some (rr, hh)) : th_MI l LC yX3_isAmount cX3_isAmount 1 (some .boolean) 0 0 [.int x0] h (some (.int rr)) hh := by
  refine th_MI_of (ls := [.int x0]) RX3 rfl rfl rfl (Nat.le_of_ble_eq_true rfl) ?_
  intro p0 e s m args below meth c D cI cZ ad X
  unfold fX3_isAmount at hf
  refine V_iload_n (pc := 0) X (th_da dtX3_isAmount 0 rfl) rfl ?_
  refine V_if_lt (pc := 1) (tgt := 15) X (th_da dtX3_isAmount 1 rfl) (by decide) (fun c1 => ?_) (fun c1 => ?_)
  · rw [if_pos c1] at hf
    refine V_iconst (pc := 15) (v := 0) X (th_da dtX3_isAmount 7 rfl) (by decide) ?_
    exact V_zretF (pc := 16) X (th_da dtX3_isAmount 8 rfl) (Or.inl rfl) hf
  · rw [if_neg c1] at hf
    refine V_iload_n (pc := 4) X (th_da dtX3_isAmount 2 rfl) rfl ?_
    refine V_ldcw (pc := 5) (v := 1000000) X (th_da dtX3_isAmount 3 rfl) wco_X3_277 ?_
    refine V_icmp_gt (pc := 8) (tgt := 15) X (th_da dtX3_isAmount 4 rfl) (by decide) (fun c2 => ?_) (fun c2 => ?_)
    · rw [if_pos c2] at hf
      refine V_iconst (pc := 15) (v := 0) X (th_da dtX3_isAmount 7 rfl) (by decide) ?_
      exact V_zretF (pc := 16) X (th_da dtX3_isAmount 8 rfl) (Or.inl rfl) hf
    · rw [if_neg c2] at hf
      refine V_iconst (pc := 11) (v := 1) X (th_da dtX3_isAmount 5 rfl) (by decide) ?_
      refine V_goto (pc := 12) (tgt := 16) X (th_da dtX3_isAmount 6 rfl) (by decide) ?_
      exact V_zretF (pc := 16) X (th_da dtX3_isAmount 8 rfl) (Or.inr rfl) hf
end
def fX3_refuse (x1 : Int32) (h : th_H) : Option (Int32 × th_H) :=
  if (x1 < 0 : Prop) then
    some ((-1), h)
  else
    if (x1 < 5 : Prop) then
      th_rd h 89 5 x1 fun v3 =>
      th_wr h 89 5 x1 (v3 + 1) fun h4 =>
      some ((-1), h4)
    else
      some ((-1), h)
def tbX3_refuse : List (Nat × Instr × Nat) := [(0, .iload_n 1, 1), (1, .ifCond .lt 18, 3), (4, .iload_n 1, 1), (5, .iconst 5, 1), (6, .if_icmp .ge 13, 3), (9, .aload_n 0, 1), (10, .getfield 42, 3), (13, .iload_n 1, 1), (14, .dup2, 1), (15, .iaload, 1), (16, .iconst 1, 1), (17, .iadd, 1), (18, .iastore, 1), (19, .iconst (-1), 1), (20, .ireturn, 1)]
theorem dtX3_refuse : th_dec cX3_refuse tbX3_refuse = true := by decide +kernel
section
variable {p0 : Program} {l : Launch} {e : Env} {s : State} {m : MethodId} {args : Array Value} {below : List Frame} {meth : Method} {c : Code} {D : va_G} {cI cZ : ClassId} {ad : Nat → Nat} {rr : Int32} {hh : th_H}
set_option maxHeartbeats 4000000 in
set_option maxRecDepth 100000 in
theorem mX3_refuse (l : Launch) (x1 : Int32) (h : th_H) (rr : Int32) (hh : th_H) (hf : fX3_refuse x1 h = some (rr, hh)) : th_MI l LC yX3_refuse cX3_refuse 2 (some .int) 0 0 [.ref 0, .int x1] h (some (.int rr)) hh := by
  refine th_MI_of (ls := [.ref 0, .int x1]) RX3 rfl rfl rfl (Nat.le_of_ble_eq_true rfl) ?_
  intro p0 e s m args below meth c D cI cZ ad X
  unfold fX3_refuse at hf
  refine V_iload_n (pc := 0) X (th_da dtX3_refuse 0 rfl) rfl ?_
  refine V_if_lt (pc := 1) (tgt := 19) X (th_da dtX3_refuse 1 rfl) (by decide) (fun c1 => ?_) (fun c1 => ?_)
  · rw [if_pos c1] at hf
    refine V_iconst (pc := 19) (v := (-1)) X (th_da dtX3_refuse 13 rfl) (by decide) ?_
    exact V_iretF (pc := 20) X (th_da dtX3_refuse 14 rfl) hf
  · rw [if_neg c1] at hf
    refine V_iload_n (pc := 4) X (th_da dtX3_refuse 2 rfl) rfl ?_
    refine V_iconst (pc := 5) (v := 5) X (th_da dtX3_refuse 3 rfl) (by decide) ?_
    refine V_icmp_ge (pc := 6) (tgt := 19) X (th_da dtX3_refuse 4 rfl) (by decide) (fun c2 => ?_) (fun c2 => ?_)
    · rw [if_pos c2] at hf
      refine V_aload_n (pc := 9) X (th_da dtX3_refuse 5 rfl) rfl ?_
      refine V_getR (pc := 10) (j := 9) (t := 89) X (th_da dtX3_refuse 6 rfl) wfl_X3_42 iX3 rfl rfl (Nat.le_of_ble_eq_true rfl) rfl ?_
      refine V_iload_n (pc := 13) X (th_da dtX3_refuse 7 rfl) rfl ?_
      refine V_dup2 (pc := 14) X (th_da dtX3_refuse 8 rfl) rfl rfl ?_
      obtain ⟨v3, e3, g3, hf⟩ := th_rd_some hf
      refine V_iald (pc := 15) X (th_da dtX3_refuse 9 rfl) rfl g3 e3 ?_
      refine V_iconst (pc := 16) (v := 1) X (th_da dtX3_refuse 10 rfl) (by decide) ?_
      refine V_iadd (pc := 17) X (th_da dtX3_refuse 11 rfl) ?_
      obtain ⟨h4, e4, g4, hf⟩ := th_wr_some hf
      refine V_iast (pc := 18) X (th_da dtX3_refuse 12 rfl) rfl g4 e4 ?_
      refine V_iconst (pc := 19) (v := (-1)) X (th_da dtX3_refuse 13 rfl) (by decide) ?_
      exact V_iretF (pc := 20) X (th_da dtX3_refuse 14 rfl) hf
    · rw [if_neg c2] at hf
      refine V_iconst (pc := 19) (v := (-1)) X (th_da dtX3_refuse 13 rfl) (by decide) ?_
      exact V_iretF (pc := 20) X (th_da dtX3_refuse 14 rfl) hf
end
def fX3_link (x1 : Int32) (x2 : Int32) (h : th_H) : Option (Int32 × th_H) :=
  th_bd (fX3_isLink x1 h) fun u1 h1 =>
  if (u1 = 0 : Prop) then
    th_bd (fX3_refuse 0 h1) fun u3 h3 =>
    some (u3, h3)
  else
    th_bd (fX3_isAmount x2 h1) fun u4 h4 =>
    if (u4 = 0 : Prop) then
      th_bd (fX3_refuse 0 h4) fun u6 h6 =>
      some (u6, h6)
    else
      th_rd h4 3 10 x1 fun v7 =>
      if (v7 = x2 : Prop) then
        th_bd (fX3_refuse 2 h4) fun u9 h9 =>
        some (u9, h9)
      else
        th_bd (fX0_boundOf 2 x1 h4) fun u10 h10 =>
        if (x2 < u10 : Prop) then
          th_bd (fX3_refuse 4 h10) fun u12 h12 =>
          some (u12, h12)
        else
          th_bd (fX0_setCapacity 2 x1 x2 h10) fun _u13 h13 =>
          some (v7, h13)
def tbX3_link : List (Nat × Instr × Nat) := [(0, .iload_n 1, 1), (1, .invokestatic 49, 3), (4, .ifCond .eq 10, 3), (7, .iload_n 2, 1), (8, .invokestatic 53, 3), (11, .ifCond .ne 9, 3), (14, .aload_n 0, 1), (15, .iconst 0, 1), (16, .invokevirtual 56, 3), (19, .ireturn, 1), (20, .aload_n 0, 1), (21, .getfield 20, 3), (24, .getfield 60, 3), (27, .iload_n 1, 1), (28, .iaload, 1), (29, .istore_n 3, 1), (30, .iload_n 3, 1), (31, .iload_n 2, 1), (32, .if_icmp .ne 9, 3), (35, .aload_n 0, 1), (36, .iconst 2, 1), (37, .invokevirtual 56, 3), (40, .ireturn, 1), (41, .aload_n 0, 1), (42, .getfield 20, 3), (45, .iload_n 1, 1), (46, .invokevirtual 65, 3), (49, .iload_n 2, 1), (50, .if_icmp .le 9, 3), (53, .aload_n 0, 1), (54, .iconst 4, 1), (55, .invokevirtual 56, 3), (58, .ireturn, 1), (59, .aload_n 0, 1), (60, .getfield 20, 3), (63, .iload_n 1, 1), (64, .iload_n 2, 1), (65, .invokevirtual 68, 3), (68, .iload_n 3, 1), (69, .ireturn, 1)]
theorem dtX3_link : th_dec cX3_link tbX3_link = true := by decide +kernel
section
variable {p0 : Program} {l : Launch} {e : Env} {s : State} {m : MethodId} {args : Array Value} {below : List Frame} {meth : Method} {c : Code} {D : va_G} {cI cZ : ClassId} {ad : Nat → Nat} {rr : Int32} {hh : th_H}
set_option maxHeartbeats 4000000 in
set_option maxRecDepth 100000 in
theorem mX3_link (l : Launch) (x1 : Int32) (x2 : Int32) (h : th_H) (rr : Int32) (hh : th_H) (hf : fX3_link x1 x2 h = some (rr, hh)) : th_MI l LC yX3_link cX3_link 4 (some .int) 1 23 [.ref 0, .int x1, .int x2] h (some (.int rr)) hh := by
  refine th_MI_of (ls := [.ref 0, .int x1, .int x2, .null]) RX3 rfl rfl rfl (Nat.le_of_ble_eq_true rfl) ?_
  intro p0 e s m args below meth c D cI cZ ad X
  unfold fX3_link at hf
  refine V_iload_n (pc := 0) X (th_da dtX3_link 0 rfl) rfl ?_
  obtain ⟨u1, h1, e1, hf⟩ := th_bd_some hf
  refine V_callSi (pc := 1) (As := [.int x1]) X (th_da dtX3_link 1 rfl) (mX3_isLink l _ _ _ _ e1) wcd_X3_isLink wml_X3_49 wst_X3_isLink win_X3_isLink hd_X3_isLink ⟨Nat.le_of_ble_eq_true rfl, Nat.le_of_ble_eq_true rfl⟩ (Nat.le_of_ble_eq_true rfl) rfl ?_
  refine V_if_eq (pc := 4) (tgt := 14) X (th_da dtX3_link 2 rfl) (by decide) (fun c2 => ?_) (fun c2 => ?_)
  · rw [if_pos c2] at hf
    refine V_aload_n (pc := 14) X (th_da dtX3_link 6 rfl) rfl ?_
    refine V_iconst (pc := 15) (v := 0) X (th_da dtX3_link 7 rfl) (by decide) ?_
    obtain ⟨u3, h3, e3, hf⟩ := th_bd_some hf
    refine V_callVi (pc := 16) (q := 0) (As := [.int 0]) X (th_da dtX3_link 8 rfl) (mX3_refuse l _ _ _ _ e3) wcd_X3_refuse wml_X3_56 wim_X3_refuse wse_X3_refuse win_X3_refuse hd_X3_refuse ⟨Nat.le_of_ble_eq_true rfl, Nat.le_of_ble_eq_true rfl⟩ (Nat.le_of_ble_eq_true rfl) rfl rfl rfl ?_
    exact V_iretF (pc := 19) X (th_da dtX3_link 9 rfl) hf
  · rw [if_neg c2] at hf
    refine V_iload_n (pc := 7) X (th_da dtX3_link 3 rfl) rfl ?_
    obtain ⟨u4, h4, e4, hf⟩ := th_bd_some hf
    refine V_callSi (pc := 8) (As := [.int x2]) X (th_da dtX3_link 4 rfl) (mX3_isAmount l _ _ _ _ e4) wcd_X3_isAmount wml_X3_53 wst_X3_isAmount win_X3_isAmount hd_X3_isAmount ⟨Nat.le_of_ble_eq_true rfl, Nat.le_of_ble_eq_true rfl⟩ (Nat.le_of_ble_eq_true rfl) rfl ?_
    refine V_if_ne (pc := 11) (tgt := 20) X (th_da dtX3_link 5 rfl) (by decide) (fun c5 => ?_) (fun c5 => ?_)
    · rw [if_pos c5] at hf
      refine V_aload_n (pc := 14) X (th_da dtX3_link 6 rfl) rfl ?_
      refine V_iconst (pc := 15) (v := 0) X (th_da dtX3_link 7 rfl) (by decide) ?_
      obtain ⟨u6, h6, e6, hf⟩ := th_bd_some hf
      refine V_callVi (pc := 16) (q := 0) (As := [.int 0]) X (th_da dtX3_link 8 rfl) (mX3_refuse l _ _ _ _ e6) wcd_X3_refuse wml_X3_56 wim_X3_refuse wse_X3_refuse win_X3_refuse hd_X3_refuse ⟨Nat.le_of_ble_eq_true rfl, Nat.le_of_ble_eq_true rfl⟩ (Nat.le_of_ble_eq_true rfl) rfl rfl rfl ?_
      exact V_iretF (pc := 19) X (th_da dtX3_link 9 rfl) hf
    · rw [if_neg c5] at hf
      refine V_aload_n (pc := 20) X (th_da dtX3_link 10 rfl) rfl ?_
      refine V_getR (pc := 21) (j := 1) (t := 2) X (th_da dtX3_link 11 rfl) wfl_X3_20 iX3 rfl rfl (Nat.le_of_ble_eq_true rfl) rfl ?_
      refine V_getR (pc := 24) (j := 0) (t := 3) X (th_da dtX3_link 12 rfl) wfl_X3_60 iX0 rfl rfl (Nat.le_of_ble_eq_true rfl) rfl ?_
      refine V_iload_n (pc := 27) X (th_da dtX3_link 13 rfl) rfl ?_
      obtain ⟨v7, e7, g7, hf⟩ := th_rd_some hf
      refine V_iald (pc := 28) X (th_da dtX3_link 14 rfl) rfl g7 e7 ?_
      refine V_istore_n (pc := 29) (ls2 := [.ref 0, .int x1, .int x2, .int v7]) X (th_da dtX3_link 15 rfl) (Nat.le_of_ble_eq_true rfl) rfl rfl ?_
      refine V_iload_n (pc := 30) X (th_da dtX3_link 16 rfl) rfl ?_
      refine V_iload_n (pc := 31) X (th_da dtX3_link 17 rfl) rfl ?_
      refine V_icmp_ne (pc := 32) (tgt := 41) X (th_da dtX3_link 18 rfl) (by decide) (fun c8 => ?_) (fun c8 => ?_)
      · rw [if_pos c8] at hf
        refine V_aload_n (pc := 35) X (th_da dtX3_link 19 rfl) rfl ?_
        refine V_iconst (pc := 36) (v := 2) X (th_da dtX3_link 20 rfl) (by decide) ?_
        obtain ⟨u9, h9, e9, hf⟩ := th_bd_some hf
        refine V_callVi (pc := 37) (q := 0) (As := [.int 2]) X (th_da dtX3_link 21 rfl) (mX3_refuse l _ _ _ _ e9) wcd_X3_refuse wml_X3_56 wim_X3_refuse wse_X3_refuse win_X3_refuse hd_X3_refuse ⟨Nat.le_of_ble_eq_true rfl, Nat.le_of_ble_eq_true rfl⟩ (Nat.le_of_ble_eq_true rfl) rfl rfl rfl ?_
        exact V_iretF (pc := 40) X (th_da dtX3_link 22 rfl) hf
      · rw [if_neg c8] at hf
        refine V_aload_n (pc := 41) X (th_da dtX3_link 23 rfl) rfl ?_
        refine V_getR (pc := 42) (j := 1) (t := 2) X (th_da dtX3_link 24 rfl) wfl_X3_20 iX3 rfl rfl (Nat.le_of_ble_eq_true rfl) rfl ?_
        refine V_iload_n (pc := 45) X (th_da dtX3_link 25 rfl) rfl ?_
        obtain ⟨u10, h10, e10, hf⟩ := th_bd_some hf
        refine V_callVi (pc := 46) (q := 2) (As := [.int x1]) X (th_da dtX3_link 26 rfl) (mX0_boundOf l 2 isP_2 _ _ _ _ e10) wcd_X0_boundOf wml_X3_65 wim_X0_boundOf wse_X0_boundOf win_X0_boundOf hd_X0_boundOf ⟨Nat.le_of_ble_eq_true rfl, Nat.le_of_ble_eq_true rfl⟩ (Nat.le_of_ble_eq_true rfl) rfl rfl rfl ?_
        refine V_iload_n (pc := 49) X (th_da dtX3_link 27 rfl) rfl ?_
        refine V_icmp_le (pc := 50) (tgt := 59) X (th_da dtX3_link 28 rfl) (by decide) (fun c11 => ?_) (fun c11 => ?_)
        · rw [if_pos c11] at hf
          refine V_aload_n (pc := 53) X (th_da dtX3_link 29 rfl) rfl ?_
          refine V_iconst (pc := 54) (v := 4) X (th_da dtX3_link 30 rfl) (by decide) ?_
          obtain ⟨u12, h12, e12, hf⟩ := th_bd_some hf
          refine V_callVi (pc := 55) (q := 0) (As := [.int 4]) X (th_da dtX3_link 31 rfl) (mX3_refuse l _ _ _ _ e12) wcd_X3_refuse wml_X3_56 wim_X3_refuse wse_X3_refuse win_X3_refuse hd_X3_refuse ⟨Nat.le_of_ble_eq_true rfl, Nat.le_of_ble_eq_true rfl⟩ (Nat.le_of_ble_eq_true rfl) rfl rfl rfl ?_
          exact V_iretF (pc := 58) X (th_da dtX3_link 32 rfl) hf
        · rw [if_neg c11] at hf
          refine V_aload_n (pc := 59) X (th_da dtX3_link 33 rfl) rfl ?_
          refine V_getR (pc := 60) (j := 1) (t := 2) X (th_da dtX3_link 34 rfl) wfl_X3_20 iX3 rfl rfl (Nat.le_of_ble_eq_true rfl) rfl ?_
          refine V_iload_n (pc := 63) X (th_da dtX3_link 35 rfl) rfl ?_
          refine V_iload_n (pc := 64) X (th_da dtX3_link 36 rfl) rfl ?_
          obtain ⟨u13, h13, e13, hf⟩ := th_bd_some hf
          refine V_callVv (pc := 65) (q := 2) (As := [.int x1, .int x2]) X (th_da dtX3_link 37 rfl) (mX0_setCapacity l 2 isP_2 _ _ _ _ _ e13) wcd_X0_setCapacity wml_X3_68 wim_X0_setCapacity wse_X0_setCapacity win_X0_setCapacity hd_X0_setCapacity ⟨Nat.le_of_ble_eq_true rfl, Nat.le_of_ble_eq_true rfl⟩ (Nat.le_of_ble_eq_true rfl) rfl rfl rfl ?_
          refine V_iload_n (pc := 68) X (th_da dtX3_link 38 rfl) rfl ?_
          exact V_iretF (pc := 69) X (th_da dtX3_link 39 rfl) hf
end
def fX3_isPath (x0 : Int32) (h : th_H) : Option (Int32 × th_H) :=
  if (0 < x0 : Prop) then
    if (1023 < x0 : Prop) then
      some (0, h)
    else
      some (1, h)
  else
    some (0, h)
def tbX3_isPath : List (Nat × Instr × Nat) := [(0, .iload_n 0, 1), (1, .ifCond .le 14, 3), (4, .iload_n 0, 1), (5, .sipush 1023, 3), (8, .if_icmp .gt 7, 3), (11, .iconst 1, 1), (12, .goto 4, 3), (15, .iconst 0, 1), (16, .ireturn, 1)]
theorem dtX3_isPath : th_dec cX3_isPath tbX3_isPath = true := by decide +kernel
section
variable {p0 : Program} {l : Launch} {e : Env} {s : State} {m : MethodId} {args : Array Value} {below : List Frame} {meth : Method} {c : Code} {D : va_G} {cI cZ : ClassId} {ad : Nat → Nat} {rr : Int32} {hh : th_H}
set_option maxHeartbeats 4000000 in
set_option maxRecDepth 100000 in
theorem mX3_isPath (l : Launch) (x0 : Int32) (h : th_H) (rr : Int32) (hh : th_H) (hf : fX3_isPath x0 h = some (rr, hh)) : th_MI l LC yX3_isPath cX3_isPath 1 (some .boolean) 0 0 [.int x0] h (some (.int rr)) hh := by
  refine th_MI_of (ls := [.int x0]) RX3 rfl rfl rfl (Nat.le_of_ble_eq_true rfl) ?_
  intro p0 e s m args below meth c D cI cZ ad X
  unfold fX3_isPath at hf
  refine V_iload_n (pc := 0) X (th_da dtX3_isPath 0 rfl) rfl ?_
  refine V_if_le (pc := 1) (tgt := 15) X (th_da dtX3_isPath 1 rfl) (by decide) (fun c1 => ?_) (fun c1 => ?_)
  · rw [if_pos c1] at hf
    refine V_iload_n (pc := 4) X (th_da dtX3_isPath 2 rfl) rfl ?_
    refine V_sipush (pc := 5) (v := 1023) X (th_da dtX3_isPath 3 rfl) (by decide) ?_
    refine V_icmp_gt (pc := 8) (tgt := 15) X (th_da dtX3_isPath 4 rfl) (by decide) (fun c2 => ?_) (fun c2 => ?_)
    · rw [if_pos c2] at hf
      refine V_iconst (pc := 15) (v := 0) X (th_da dtX3_isPath 7 rfl) (by decide) ?_
      exact V_zretF (pc := 16) X (th_da dtX3_isPath 8 rfl) (Or.inl rfl) hf
    · rw [if_neg c2] at hf
      refine V_iconst (pc := 11) (v := 1) X (th_da dtX3_isPath 5 rfl) (by decide) ?_
      refine V_goto (pc := 12) (tgt := 16) X (th_da dtX3_isPath 6 rfl) (by decide) ?_
      exact V_zretF (pc := 16) X (th_da dtX3_isPath 8 rfl) (Or.inr rfl) hf
  · rw [if_neg c1] at hf
    refine V_iconst (pc := 15) (v := 0) X (th_da dtX3_isPath 7 rfl) (by decide) ?_
    exact V_zretF (pc := 16) X (th_da dtX3_isPath 8 rfl) (Or.inl rfl) hf
end
def fX3_isWeight (x0 : Int32) (h : th_H) : Option (Int32 × th_H) :=
  if (x0 < 1 : Prop) then
    some (0, h)
  else
    if (9 < x0 : Prop) then
      some (0, h)
    else
      some (1, h)
def tbX3_isWeight : List (Nat × Instr × Nat) := [(0, .iload_n 0, 1), (1, .iconst 1, 1), (2, .if_icmp .lt 13, 3), (5, .iload_n 0, 1), (6, .bipush 9, 2), (8, .if_icmp .gt 7, 3), (11, .iconst 1, 1), (12, .goto 4, 3), (15, .iconst 0, 1), (16, .ireturn, 1)]
theorem dtX3_isWeight : th_dec cX3_isWeight tbX3_isWeight = true := by decide +kernel
section
variable {p0 : Program} {l : Launch} {e : Env} {s : State} {m : MethodId} {args : Array Value} {below : List Frame} {meth : Method} {c : Code} {D : va_G} {cI cZ : ClassId} {ad : Nat → Nat} {rr : Int32} {hh : th_H}
set_option maxHeartbeats 4000000 in
set_option maxRecDepth 100000 in
theorem mX3_isWeight (l : Launch) (x0 : Int32) (h : th_H) (rr : Int32) (hh : th_H) (hf : fX3_isWeight x0 h = some (rr, hh)) : th_MI l LC yX3_isWeight cX3_isWeight 1 (some .boolean) 0 0 [.int x0] h (some (.int rr)) hh := by
  refine th_MI_of (ls := [.int x0]) RX3 rfl rfl rfl (Nat.le_of_ble_eq_true rfl) ?_
  intro p0 e s m args below meth c D cI cZ ad X
  unfold fX3_isWeight at hf
  refine V_iload_n (pc := 0) X (th_da dtX3_isWeight 0 rfl) rfl ?_
  refine V_iconst (pc := 1) (v := 1) X (th_da dtX3_isWeight 1 rfl) (by decide) ?_
  refine V_icmp_lt (pc := 2) (tgt := 15) X (th_da dtX3_isWeight 2 rfl) (by decide) (fun c1 => ?_) (fun c1 => ?_)
  · rw [if_pos c1] at hf
    refine V_iconst (pc := 15) (v := 0) X (th_da dtX3_isWeight 8 rfl) (by decide) ?_
    exact V_zretF (pc := 16) X (th_da dtX3_isWeight 9 rfl) (Or.inl rfl) hf
  · rw [if_neg c1] at hf
    refine V_iload_n (pc := 5) X (th_da dtX3_isWeight 3 rfl) rfl ?_
    refine V_bipush (pc := 6) (v := 9) X (th_da dtX3_isWeight 4 rfl) (by decide) ?_
    refine V_icmp_gt (pc := 8) (tgt := 15) X (th_da dtX3_isWeight 5 rfl) (by decide) (fun c2 => ?_) (fun c2 => ?_)
    · rw [if_pos c2] at hf
      refine V_iconst (pc := 15) (v := 0) X (th_da dtX3_isWeight 8 rfl) (by decide) ?_
      exact V_zretF (pc := 16) X (th_da dtX3_isWeight 9 rfl) (Or.inl rfl) hf
    · rw [if_neg c2] at hf
      refine V_iconst (pc := 11) (v := 1) X (th_da dtX3_isWeight 6 rfl) (by decide) ?_
      refine V_goto (pc := 12) (tgt := 16) X (th_da dtX3_isWeight 7 rfl) (by decide) ?_
      exact V_zretF (pc := 16) X (th_da dtX3_isWeight 9 rfl) (Or.inr rfl) hf
end
def fX3_whyNoSuchFlow_c34 (p : Nat) (y1 : Int32) (y3 : Int32) (y4 : Int32) (z0 : Int32) (h : th_H) : Option (Int32 × th_H) :=
  if (z0 = 0 : Prop) then
    some (0, h)
  else
    if (y4 < y3 : Prop) then
      some (0, h)
    else
      th_bd (fX0_freeNumber p h) fun u3 h3 =>
      if (u3 = (-1) : Prop) then
        some (3, h3)
      else
        th_bd (fX0_hasRoom p y1 y3 h3) fun u5 h5 =>
        if (u5 = 0 : Prop) then
          some (4, h5)
        else
          some ((-1), h5)
def fX3_whyNoSuchFlow (p : Nat) (x1 : Int32) (x2 : Int32) (x3 : Int32) (x4 : Int32) (h : th_H) : Option (Int32 × th_H) :=
  th_bd (fX3_isPath x1 h) fun u1 h1 =>
  if (u1 = 0 : Prop) then
    fX3_whyNoSuchFlow_c34 p x1 x3 x4 0 h1
  else
    th_bd (fX3_isWeight x2 h1) fun u3 h3 =>
    if (u3 = 0 : Prop) then
      fX3_whyNoSuchFlow_c34 p x1 x3 x4 0 h3
    else
      th_bd (fX3_isAmount x3 h3) fun u5 h5 =>
      if (u5 = 0 : Prop) then
        fX3_whyNoSuchFlow_c34 p x1 x3 x4 0 h5
      else
        th_bd (fX3_isAmount x4 h5) fun u7 h7 =>
        if (u7 = 0 : Prop) then
          fX3_whyNoSuchFlow_c34 p x1 x3 x4 0 h7
        else
          fX3_whyNoSuchFlow_c34 p x1 x3 x4 1 h7
def tbX3_whyNoSuchFlow : List (Nat × Instr × Nat) := [(0, .iload_n 1, 1), (1, .invokestatic 301, 3), (4, .ifCond .eq 29, 3), (7, .iload_n 2, 1), (8, .invokestatic 340, 3), (11, .ifCond .eq 22, 3), (14, .iload_n 3, 1), (15, .invokestatic 53, 3), (18, .ifCond .eq 15, 3), (21, .iload 4, 2), (23, .invokestatic 53, 3), (26, .ifCond .eq 7, 3), (29, .iconst 1, 1), (30, .goto 4, 3), (33, .iconst 0, 1), (34, .istore 5, 2), (36, .iload 5, 2), (38, .ifCond .eq 9, 3), (41, .iload 4, 2), (43, .iload_n 3, 1), (44, .if_icmp .ge 5, 3), (47, .iconst 0, 1), (48, .ireturn, 1), (49, .aload_n 0, 1), (50, .invokevirtual 304, 3), (53, .iconst (-1), 1), (54, .if_icmp .ne 5, 3), (57, .iconst 3, 1), (58, .ireturn, 1), (59, .aload_n 0, 1), (60, .iload_n 1, 1), (61, .iload_n 3, 1), (62, .invokevirtual 113, 3), (65, .ifCond .eq 7, 3), (68, .iconst (-1), 1), (69, .goto 4, 3), (72, .iconst 4, 1), (73, .ireturn, 1)]
theorem dtX3_whyNoSuchFlow : th_dec cX3_whyNoSuchFlow tbX3_whyNoSuchFlow = true := by decide +kernel
section
variable {p0 : Program} {l : Launch} {e : Env} {s : State} {m : MethodId} {args : Array Value} {below : List Frame} {meth : Method} {c : Code} {D : va_G} {cI cZ : ClassId} {ad : Nat → Nat} {rr : Int32} {hh : th_H}
set_option maxHeartbeats 4000000 in
set_option maxRecDepth 100000 in
theorem tX3_whyNoSuchFlow_c34 (X : th_X p0 s m args meth c D cI cZ ad LC 6 RX3 cX3_whyNoSuchFlow (some .int)) (p : Nat) (hp : isP p) (y1 : Int32) (y3 : Int32) (y4 : Int32) (z0 : Int32) (h : th_H) (hf : fX3_whyNoSuchFlow_c34 p y1 y3 y4 z0 h = some (rr, hh)) : th_V p0 l e { frames := 2, cells := 0, slots := 0, locals := 46 } s m args below meth c D cI cZ ad LC 6 (some (.int rr)) hh 34 [.ref p, .int y1, .null, .int y3, .int y4, .null] [.int z0] h := by
  unfold fX3_whyNoSuchFlow_c34 at hf
  refine V_istore (pc := 34) (ls2 := [.ref p, .int y1, .null, .int y3, .int y4, .int z0]) X (th_da dtX3_whyNoSuchFlow 15 rfl) (Nat.le_of_ble_eq_true rfl) rfl rfl ?_
  refine V_iload (pc := 36) X (th_da dtX3_whyNoSuchFlow 16 rfl) rfl ?_
  refine V_if_eq (pc := 38) (tgt := 47) X (th_da dtX3_whyNoSuchFlow 17 rfl) (by decide) (fun c1 => ?_) (fun c1 => ?_)
  · rw [if_pos c1] at hf
    refine V_iconst (pc := 47) (v := 0) X (th_da dtX3_whyNoSuchFlow 21 rfl) (by decide) ?_
    exact V_iretF (pc := 48) X (th_da dtX3_whyNoSuchFlow 22 rfl) hf
  · rw [if_neg c1] at hf
    refine V_iload (pc := 41) X (th_da dtX3_whyNoSuchFlow 18 rfl) rfl ?_
    refine V_iload_n (pc := 43) X (th_da dtX3_whyNoSuchFlow 19 rfl) rfl ?_
    refine V_icmp_ge (pc := 44) (tgt := 49) X (th_da dtX3_whyNoSuchFlow 20 rfl) (by decide) (fun c2 => ?_) (fun c2 => ?_)
    · rw [if_pos c2] at hf
      refine V_iconst (pc := 47) (v := 0) X (th_da dtX3_whyNoSuchFlow 21 rfl) (by decide) ?_
      exact V_iretF (pc := 48) X (th_da dtX3_whyNoSuchFlow 22 rfl) hf
    · rw [if_neg c2] at hf
      refine V_aload_n (pc := 49) X (th_da dtX3_whyNoSuchFlow 23 rfl) rfl ?_
      obtain ⟨u3, h3, e3, hf⟩ := th_bd_some hf
      refine V_callVi (pc := 50) (q := p) (As := []) X (th_da dtX3_whyNoSuchFlow 24 rfl) (mX0_freeNumber l p hp _ _ _ e3) wcd_X0_freeNumber wml_X3_304 wim_X0_freeNumber wse_X0_freeNumber win_X0_freeNumber hd_X0_freeNumber ⟨Nat.le_of_ble_eq_true rfl, Nat.le_of_ble_eq_true rfl⟩ (Nat.le_of_ble_eq_true rfl) rfl (P_0 hp) rfl ?_
      refine V_iconst (pc := 53) (v := (-1)) X (th_da dtX3_whyNoSuchFlow 25 rfl) (by decide) ?_
      refine V_icmp_ne (pc := 54) (tgt := 59) X (th_da dtX3_whyNoSuchFlow 26 rfl) (by decide) (fun c4 => ?_) (fun c4 => ?_)
      · rw [if_pos c4] at hf
        refine V_iconst (pc := 57) (v := 3) X (th_da dtX3_whyNoSuchFlow 27 rfl) (by decide) ?_
        exact V_iretF (pc := 58) X (th_da dtX3_whyNoSuchFlow 28 rfl) hf
      · rw [if_neg c4] at hf
        refine V_aload_n (pc := 59) X (th_da dtX3_whyNoSuchFlow 29 rfl) rfl ?_
        refine V_iload_n (pc := 60) X (th_da dtX3_whyNoSuchFlow 30 rfl) rfl ?_
        refine V_iload_n (pc := 61) X (th_da dtX3_whyNoSuchFlow 31 rfl) rfl ?_
        obtain ⟨u5, h5, e5, hf⟩ := th_bd_some hf
        refine V_callVi (pc := 62) (q := p) (As := [.int y1, .int y3]) X (th_da dtX3_whyNoSuchFlow 32 rfl) (mX0_hasRoom l p hp _ _ _ _ _ e5) wcd_X0_hasRoom wml_X3_113 wim_X0_hasRoom wse_X0_hasRoom win_X0_hasRoom hd_X0_hasRoom ⟨Nat.le_of_ble_eq_true rfl, Nat.le_of_ble_eq_true rfl⟩ (Nat.le_of_ble_eq_true rfl) rfl (P_0 hp) rfl ?_
        refine V_if_eq (pc := 65) (tgt := 72) X (th_da dtX3_whyNoSuchFlow 33 rfl) (by decide) (fun c6 => ?_) (fun c6 => ?_)
        · rw [if_pos c6] at hf
          refine V_iconst (pc := 72) (v := 4) X (th_da dtX3_whyNoSuchFlow 36 rfl) (by decide) ?_
          exact V_iretF (pc := 73) X (th_da dtX3_whyNoSuchFlow 37 rfl) hf
        · rw [if_neg c6] at hf
          refine V_iconst (pc := 68) (v := (-1)) X (th_da dtX3_whyNoSuchFlow 34 rfl) (by decide) ?_
          refine V_goto (pc := 69) (tgt := 73) X (th_da dtX3_whyNoSuchFlow 35 rfl) (by decide) ?_
          exact V_iretF (pc := 73) X (th_da dtX3_whyNoSuchFlow 37 rfl) hf
set_option maxHeartbeats 4000000 in
set_option maxRecDepth 100000 in
theorem mX3_whyNoSuchFlow (l : Launch) (p : Nat) (hp : isP p) (x1 : Int32) (x2 : Int32) (x3 : Int32) (x4 : Int32) (h : th_H) (rr : Int32) (hh : th_H) (hf : fX3_whyNoSuchFlow p x1 x2 x3 x4 h = some (rr, hh)) : th_MI l LC yX3_whyNoSuchFlow cX3_whyNoSuchFlow 6 (some .int) 2 46 [.ref p, .int x1, .int x2, .int x3, .int x4] h (some (.int rr)) hh := by
  refine th_MI_of (ls := [.ref p, .int x1, .int x2, .int x3, .int x4, .null]) RX3 rfl rfl rfl (Nat.le_of_ble_eq_true rfl) ?_
  intro p0 e s m args below meth c D cI cZ ad X
  unfold fX3_whyNoSuchFlow at hf
  refine V_iload_n (pc := 0) X (th_da dtX3_whyNoSuchFlow 0 rfl) rfl ?_
  obtain ⟨u1, h1, e1, hf⟩ := th_bd_some hf
  refine V_callSi (pc := 1) (As := [.int x1]) X (th_da dtX3_whyNoSuchFlow 1 rfl) (mX3_isPath l _ _ _ _ e1) wcd_X3_isPath wml_X3_301 wst_X3_isPath win_X3_isPath hd_X3_isPath ⟨Nat.le_of_ble_eq_true rfl, Nat.le_of_ble_eq_true rfl⟩ (Nat.le_of_ble_eq_true rfl) rfl ?_
  refine V_if_eq (pc := 4) (tgt := 33) X (th_da dtX3_whyNoSuchFlow 2 rfl) (by decide) (fun c2 => ?_) (fun c2 => ?_)
  · rw [if_pos c2] at hf
    refine V_iconst (pc := 33) (v := 0) X (th_da dtX3_whyNoSuchFlow 14 rfl) (by decide) ?_
    refine V_mask [true, true, false, true, true, false] (ls2 := [.ref p, .int x1, .null, .int x3, .int x4, .null]) rfl ?_
    exact tX3_whyNoSuchFlow_c34 X _ hp _ _ _ _ _ hf
  · rw [if_neg c2] at hf
    refine V_iload_n (pc := 7) X (th_da dtX3_whyNoSuchFlow 3 rfl) rfl ?_
    obtain ⟨u3, h3, e3, hf⟩ := th_bd_some hf
    refine V_callSi (pc := 8) (As := [.int x2]) X (th_da dtX3_whyNoSuchFlow 4 rfl) (mX3_isWeight l _ _ _ _ e3) wcd_X3_isWeight wml_X3_340 wst_X3_isWeight win_X3_isWeight hd_X3_isWeight ⟨Nat.le_of_ble_eq_true rfl, Nat.le_of_ble_eq_true rfl⟩ (Nat.le_of_ble_eq_true rfl) rfl ?_
    refine V_if_eq (pc := 11) (tgt := 33) X (th_da dtX3_whyNoSuchFlow 5 rfl) (by decide) (fun c4 => ?_) (fun c4 => ?_)
    · rw [if_pos c4] at hf
      refine V_iconst (pc := 33) (v := 0) X (th_da dtX3_whyNoSuchFlow 14 rfl) (by decide) ?_
      refine V_mask [true, true, false, true, true, false] (ls2 := [.ref p, .int x1, .null, .int x3, .int x4, .null]) rfl ?_
      exact tX3_whyNoSuchFlow_c34 X _ hp _ _ _ _ _ hf
    · rw [if_neg c4] at hf
      refine V_iload_n (pc := 14) X (th_da dtX3_whyNoSuchFlow 6 rfl) rfl ?_
      obtain ⟨u5, h5, e5, hf⟩ := th_bd_some hf
      refine V_callSi (pc := 15) (As := [.int x3]) X (th_da dtX3_whyNoSuchFlow 7 rfl) (mX3_isAmount l _ _ _ _ e5) wcd_X3_isAmount wml_X3_53 wst_X3_isAmount win_X3_isAmount hd_X3_isAmount ⟨Nat.le_of_ble_eq_true rfl, Nat.le_of_ble_eq_true rfl⟩ (Nat.le_of_ble_eq_true rfl) rfl ?_
      refine V_if_eq (pc := 18) (tgt := 33) X (th_da dtX3_whyNoSuchFlow 8 rfl) (by decide) (fun c6 => ?_) (fun c6 => ?_)
      · rw [if_pos c6] at hf
        refine V_iconst (pc := 33) (v := 0) X (th_da dtX3_whyNoSuchFlow 14 rfl) (by decide) ?_
        refine V_mask [true, true, false, true, true, false] (ls2 := [.ref p, .int x1, .null, .int x3, .int x4, .null]) rfl ?_
        exact tX3_whyNoSuchFlow_c34 X _ hp _ _ _ _ _ hf
      · rw [if_neg c6] at hf
        refine V_iload (pc := 21) X (th_da dtX3_whyNoSuchFlow 9 rfl) rfl ?_
        obtain ⟨u7, h7, e7, hf⟩ := th_bd_some hf
        refine V_callSi (pc := 23) (As := [.int x4]) X (th_da dtX3_whyNoSuchFlow 10 rfl) (mX3_isAmount l _ _ _ _ e7) wcd_X3_isAmount wml_X3_53 wst_X3_isAmount win_X3_isAmount hd_X3_isAmount ⟨Nat.le_of_ble_eq_true rfl, Nat.le_of_ble_eq_true rfl⟩ (Nat.le_of_ble_eq_true rfl) rfl ?_
        refine V_if_eq (pc := 26) (tgt := 33) X (th_da dtX3_whyNoSuchFlow 11 rfl) (by decide) (fun c8 => ?_) (fun c8 => ?_)
        · rw [if_pos c8] at hf
          refine V_iconst (pc := 33) (v := 0) X (th_da dtX3_whyNoSuchFlow 14 rfl) (by decide) ?_
          refine V_mask [true, true, false, true, true, false] (ls2 := [.ref p, .int x1, .null, .int x3, .int x4, .null]) rfl ?_
          exact tX3_whyNoSuchFlow_c34 X _ hp _ _ _ _ _ hf
        · rw [if_neg c8] at hf
          refine V_iconst (pc := 29) (v := 1) X (th_da dtX3_whyNoSuchFlow 12 rfl) (by decide) ?_
          refine V_goto (pc := 30) (tgt := 34) X (th_da dtX3_whyNoSuchFlow 13 rfl) (by decide) ?_
          refine V_mask [true, true, false, true, true, false] (ls2 := [.ref p, .int x1, .null, .int x3, .int x4, .null]) rfl ?_
          exact tX3_whyNoSuchFlow_c34 X _ hp _ _ _ _ _ hf
end
def fX3_whyNotCome_c39 (p : Nat) (y6 : Int32) (z0 : Int32) (h : th_H) : Option (Int32 × th_H) :=
  if (y6 = 0 : Prop) then
    some (y6, h)
  else
    if (z0 = 0 : Prop) then
      some (y6, h)
    else
      some (2, h)
def fX3_whyNotCome (p : Nat) (x1 : Int32) (x2 : Int32) (x3 : Int32) (x4 : Int32) (x5 : Int32) (h : th_H) : Option (Int32 × th_H) :=
  if (x1 < 0 : Prop) then
    some (0, h)
  else
    if (x1 < 1000000 : Prop) then
      th_bd (fX3_whyNoSuchFlow p x2 x3 x4 x5 h) fun u3 h3 =>
      th_bd (fX0_flowNamed p x1 h3) fun u4 h4 =>
      if (u4 = (-1) : Prop) then
        fX3_whyNotCome_c39 p u3 0 h4
      else
        fX3_whyNotCome_c39 p u3 1 h4
    else
      some (0, h)
def tbX3_whyNotCome : List (Nat × Instr × Nat) := [(0, .iload_n 1, 1), (1, .ifCond .lt 10, 3), (4, .iload_n 1, 1), (5, .ldc_w 277, 3), (8, .if_icmp .lt 5, 3), (11, .iconst 0, 1), (12, .ireturn, 1), (13, .aload_n 0, 1), (14, .iload_n 2, 1), (15, .iload_n 3, 1), (16, .iload 4, 2), (18, .iload 5, 2), (20, .invokestatic 286, 3), (23, .istore 6, 2), (25, .aload_n 0, 1), (26, .iload_n 1, 1), (27, .invokevirtual 184, 3), (30, .iconst (-1), 1), (31, .if_icmp .eq 7, 3), (34, .iconst 1, 1), (35, .goto 4, 3), (38, .iconst 0, 1), (39, .istore 7, 2), (41, .iload 6, 2), (43, .ifCond .eq 12, 3), (46, .iload 7, 2), (48, .ifCond .eq 7, 3), (51, .iconst 2, 1), (52, .goto 5, 3), (55, .iload 6, 2), (57, .ireturn, 1)]
theorem dtX3_whyNotCome : th_dec cX3_whyNotCome tbX3_whyNotCome = true := by decide +kernel
section
variable {p0 : Program} {l : Launch} {e : Env} {s : State} {m : MethodId} {args : Array Value} {below : List Frame} {meth : Method} {c : Code} {D : va_G} {cI cZ : ClassId} {ad : Nat → Nat} {rr : Int32} {hh : th_H}
set_option maxHeartbeats 4000000 in
set_option maxRecDepth 100000 in
theorem tX3_whyNotCome_c39 (X : th_X p0 s m args meth c D cI cZ ad LC 8 RX3 cX3_whyNotCome (some .int)) (p : Nat) (hp : isP p) (y6 : Int32) (z0 : Int32) (h : th_H) (hf : fX3_whyNotCome_c39 p y6 z0 h = some (rr, hh)) : th_V p0 l e { frames := 3, cells := 0, slots := 0, locals := 71 } s m args below meth c D cI cZ ad LC 8 (some (.int rr)) hh 39 [.null, .null, .null, .null, .null, .null, .int y6, .null] [.int z0] h := by
  unfold fX3_whyNotCome_c39 at hf
  refine V_istore (pc := 39) (ls2 := [.null, .null, .null, .null, .null, .null, .int y6, .int z0]) X (th_da dtX3_whyNotCome 22 rfl) (Nat.le_of_ble_eq_true rfl) rfl rfl ?_
  refine V_iload (pc := 41) X (th_da dtX3_whyNotCome 23 rfl) rfl ?_
  refine V_if_eq (pc := 43) (tgt := 55) X (th_da dtX3_whyNotCome 24 rfl) (by decide) (fun c1 => ?_) (fun c1 => ?_)
  · rw [if_pos c1] at hf
    refine V_iload (pc := 55) X (th_da dtX3_whyNotCome 29 rfl) rfl ?_
    exact V_iretF (pc := 57) X (th_da dtX3_whyNotCome 30 rfl) hf
  · rw [if_neg c1] at hf
    refine V_iload (pc := 46) X (th_da dtX3_whyNotCome 25 rfl) rfl ?_
    refine V_if_eq (pc := 48) (tgt := 55) X (th_da dtX3_whyNotCome 26 rfl) (by decide) (fun c2 => ?_) (fun c2 => ?_)
    · rw [if_pos c2] at hf
      refine V_iload (pc := 55) X (th_da dtX3_whyNotCome 29 rfl) rfl ?_
      exact V_iretF (pc := 57) X (th_da dtX3_whyNotCome 30 rfl) hf
    · rw [if_neg c2] at hf
      refine V_iconst (pc := 51) (v := 2) X (th_da dtX3_whyNotCome 27 rfl) (by decide) ?_
      refine V_goto (pc := 52) (tgt := 57) X (th_da dtX3_whyNotCome 28 rfl) (by decide) ?_
      exact V_iretF (pc := 57) X (th_da dtX3_whyNotCome 30 rfl) hf
set_option maxHeartbeats 4000000 in
set_option maxRecDepth 100000 in
theorem mX3_whyNotCome (l : Launch) (p : Nat) (hp : isP p) (x1 : Int32) (x2 : Int32) (x3 : Int32) (x4 : Int32) (x5 : Int32) (h : th_H) (rr : Int32) (hh : th_H) (hf : fX3_whyNotCome p x1 x2 x3 x4 x5 h = some (rr, hh)) : th_MI l LC yX3_whyNotCome cX3_whyNotCome 8 (some .int) 3 71 [.ref p, .int x1, .int x2, .int x3, .int x4, .int x5] h (some (.int rr)) hh := by
  refine th_MI_of (ls := [.ref p, .int x1, .int x2, .int x3, .int x4, .int x5, .null, .null]) RX3 rfl rfl rfl (Nat.le_of_ble_eq_true rfl) ?_
  intro p0 e s m args below meth c D cI cZ ad X
  unfold fX3_whyNotCome at hf
  refine V_iload_n (pc := 0) X (th_da dtX3_whyNotCome 0 rfl) rfl ?_
  refine V_if_lt (pc := 1) (tgt := 11) X (th_da dtX3_whyNotCome 1 rfl) (by decide) (fun c1 => ?_) (fun c1 => ?_)
  · rw [if_pos c1] at hf
    refine V_iconst (pc := 11) (v := 0) X (th_da dtX3_whyNotCome 5 rfl) (by decide) ?_
    exact V_iretF (pc := 12) X (th_da dtX3_whyNotCome 6 rfl) hf
  · rw [if_neg c1] at hf
    refine V_iload_n (pc := 4) X (th_da dtX3_whyNotCome 2 rfl) rfl ?_
    refine V_ldcw (pc := 5) (v := 1000000) X (th_da dtX3_whyNotCome 3 rfl) wco_X3_277 ?_
    refine V_icmp_lt (pc := 8) (tgt := 13) X (th_da dtX3_whyNotCome 4 rfl) (by decide) (fun c2 => ?_) (fun c2 => ?_)
    · rw [if_pos c2] at hf
      refine V_aload_n (pc := 13) X (th_da dtX3_whyNotCome 7 rfl) rfl ?_
      refine V_iload_n (pc := 14) X (th_da dtX3_whyNotCome 8 rfl) rfl ?_
      refine V_iload_n (pc := 15) X (th_da dtX3_whyNotCome 9 rfl) rfl ?_
      refine V_iload (pc := 16) X (th_da dtX3_whyNotCome 10 rfl) rfl ?_
      refine V_iload (pc := 18) X (th_da dtX3_whyNotCome 11 rfl) rfl ?_
      obtain ⟨u3, h3, e3, hf⟩ := th_bd_some hf
      refine V_callSi (pc := 20) (As := [.ref p, .int x2, .int x3, .int x4, .int x5]) X (th_da dtX3_whyNotCome 12 rfl) (mX3_whyNoSuchFlow l p hp _ _ _ _ _ _ _ e3) wcd_X3_whyNoSuchFlow wml_X3_286 wst_X3_whyNoSuchFlow win_X3_whyNoSuchFlow hd_X3_whyNoSuchFlow ⟨Nat.le_of_ble_eq_true rfl, Nat.le_of_ble_eq_true rfl⟩ (Nat.le_of_ble_eq_true rfl) rfl ?_
      refine V_istore (pc := 23) (ls2 := [.ref p, .int x1, .int x2, .int x3, .int x4, .int x5, .int u3, .null]) X (th_da dtX3_whyNotCome 13 rfl) (Nat.le_of_ble_eq_true rfl) rfl rfl ?_
      refine V_aload_n (pc := 25) X (th_da dtX3_whyNotCome 14 rfl) rfl ?_
      refine V_iload_n (pc := 26) X (th_da dtX3_whyNotCome 15 rfl) rfl ?_
      obtain ⟨u4, h4, e4, hf⟩ := th_bd_some hf
      refine V_callVi (pc := 27) (q := p) (As := [.int x1]) X (th_da dtX3_whyNotCome 16 rfl) (mX0_flowNamed l p hp _ _ _ _ e4) wcd_X0_flowNamed wml_X3_184 wim_X0_flowNamed wse_X0_flowNamed win_X0_flowNamed hd_X0_flowNamed ⟨Nat.le_of_ble_eq_true rfl, Nat.le_of_ble_eq_true rfl⟩ (Nat.le_of_ble_eq_true rfl) rfl (P_0 hp) rfl ?_
      refine V_iconst (pc := 30) (v := (-1)) X (th_da dtX3_whyNotCome 17 rfl) (by decide) ?_
      refine V_icmp_eq (pc := 31) (tgt := 38) X (th_da dtX3_whyNotCome 18 rfl) (by decide) (fun c5 => ?_) (fun c5 => ?_)
      · rw [if_pos c5] at hf
        refine V_iconst (pc := 38) (v := 0) X (th_da dtX3_whyNotCome 21 rfl) (by decide) ?_
        refine V_mask [false, false, false, false, false, false, true, false] (ls2 := [.null, .null, .null, .null, .null, .null, .int u3, .null]) rfl ?_
        exact tX3_whyNotCome_c39 X _ hp _ _ _ hf
      · rw [if_neg c5] at hf
        refine V_iconst (pc := 34) (v := 1) X (th_da dtX3_whyNotCome 19 rfl) (by decide) ?_
        refine V_goto (pc := 35) (tgt := 39) X (th_da dtX3_whyNotCome 20 rfl) (by decide) ?_
        refine V_mask [false, false, false, false, false, false, true, false] (ls2 := [.null, .null, .null, .null, .null, .null, .int u3, .null]) rfl ?_
        exact tX3_whyNotCome_c39 X _ hp _ _ _ hf
    · rw [if_neg c2] at hf
      refine V_iconst (pc := 11) (v := 0) X (th_da dtX3_whyNotCome 5 rfl) (by decide) ?_
      exact V_iretF (pc := 12) X (th_da dtX3_whyNotCome 6 rfl) hf
end
def fX3_come (x1 : Int32) (x2 : Int32) (x3 : Int32) (x4 : Int32) (x5 : Int32) (h : th_H) : Option (Int32 × th_H) :=
  th_bd (fX3_whyNotCome 2 x1 x2 x3 x4 x5 h) fun u1 h1 =>
  if (u1 = (-1) : Prop) then
    th_bd (fX1_takeIn 1 x1 x2 x3 x4 x5 h1) fun u3 h3 =>
    some (u3, h3)
  else
    th_bd (fX3_refuse u1 h1) fun u4 h4 =>
    some (u4, h4)
def tbX3_come : List (Nat × Instr × Nat) := [(0, .aload_n 0, 1), (1, .getfield 20, 3), (4, .iload_n 1, 1), (5, .iload_n 2, 1), (6, .iload_n 3, 1), (7, .iload 4, 2), (9, .iload 5, 2), (11, .invokestatic 72, 3), (14, .istore 6, 2), (16, .iload 6, 2), (18, .iconst (-1), 1), (19, .if_icmp .eq 10, 3), (22, .aload_n 0, 1), (23, .iload 6, 2), (25, .invokevirtual 56, 3), (28, .ireturn, 1), (29, .aload_n 0, 1), (30, .getfield 12, 3), (33, .iload_n 1, 1), (34, .iload_n 2, 1), (35, .iload_n 3, 1), (36, .iload 4, 2), (38, .iload 5, 2), (40, .invokevirtual 76, 3), (43, .ireturn, 1)]
theorem dtX3_come : th_dec cX3_come tbX3_come = true := by decide +kernel
section
variable {p0 : Program} {l : Launch} {e : Env} {s : State} {m : MethodId} {args : Array Value} {below : List Frame} {meth : Method} {c : Code} {D : va_G} {cI cZ : ClassId} {ad : Nat → Nat} {rr : Int32} {hh : th_H}
set_option maxHeartbeats 4000000 in
set_option maxRecDepth 100000 in
theorem mX3_come (l : Launch) (x1 : Int32) (x2 : Int32) (x3 : Int32) (x4 : Int32) (x5 : Int32) (h : th_H) (rr : Int32) (hh : th_H) (hf : fX3_come x1 x2 x3 x4 x5 h = some (rr, hh)) : th_MI l LC yX3_come cX3_come 7 (some .int) 4 98 [.ref 0, .int x1, .int x2, .int x3, .int x4, .int x5] h (some (.int rr)) hh := by
  refine th_MI_of (ls := [.ref 0, .int x1, .int x2, .int x3, .int x4, .int x5, .null]) RX3 rfl rfl rfl (Nat.le_of_ble_eq_true rfl) ?_
  intro p0 e s m args below meth c D cI cZ ad X
  unfold fX3_come at hf
  refine V_aload_n (pc := 0) X (th_da dtX3_come 0 rfl) rfl ?_
  refine V_getR (pc := 1) (j := 1) (t := 2) X (th_da dtX3_come 1 rfl) wfl_X3_20 iX3 rfl rfl (Nat.le_of_ble_eq_true rfl) rfl ?_
  refine V_iload_n (pc := 4) X (th_da dtX3_come 2 rfl) rfl ?_
  refine V_iload_n (pc := 5) X (th_da dtX3_come 3 rfl) rfl ?_
  refine V_iload_n (pc := 6) X (th_da dtX3_come 4 rfl) rfl ?_
  refine V_iload (pc := 7) X (th_da dtX3_come 5 rfl) rfl ?_
  refine V_iload (pc := 9) X (th_da dtX3_come 6 rfl) rfl ?_
  obtain ⟨u1, h1, e1, hf⟩ := th_bd_some hf
  refine V_callSi (pc := 11) (As := [.ref 2, .int x1, .int x2, .int x3, .int x4, .int x5]) X (th_da dtX3_come 7 rfl) (mX3_whyNotCome l 2 isP_2 _ _ _ _ _ _ _ _ e1) wcd_X3_whyNotCome wml_X3_72 wst_X3_whyNotCome win_X3_whyNotCome hd_X3_whyNotCome ⟨Nat.le_of_ble_eq_true rfl, Nat.le_of_ble_eq_true rfl⟩ (Nat.le_of_ble_eq_true rfl) rfl ?_
  refine V_istore (pc := 14) (ls2 := [.ref 0, .int x1, .int x2, .int x3, .int x4, .int x5, .int u1]) X (th_da dtX3_come 8 rfl) (Nat.le_of_ble_eq_true rfl) rfl rfl ?_
  refine V_iload (pc := 16) X (th_da dtX3_come 9 rfl) rfl ?_
  refine V_iconst (pc := 18) (v := (-1)) X (th_da dtX3_come 10 rfl) (by decide) ?_
  refine V_icmp_eq (pc := 19) (tgt := 29) X (th_da dtX3_come 11 rfl) (by decide) (fun c2 => ?_) (fun c2 => ?_)
  · rw [if_pos c2] at hf
    refine V_aload_n (pc := 29) X (th_da dtX3_come 16 rfl) rfl ?_
    refine V_getR (pc := 30) (j := 0) (t := 1) X (th_da dtX3_come 17 rfl) wfl_X3_12 iX3 rfl rfl (Nat.le_of_ble_eq_true rfl) rfl ?_
    refine V_iload_n (pc := 33) X (th_da dtX3_come 18 rfl) rfl ?_
    refine V_iload_n (pc := 34) X (th_da dtX3_come 19 rfl) rfl ?_
    refine V_iload_n (pc := 35) X (th_da dtX3_come 20 rfl) rfl ?_
    refine V_iload (pc := 36) X (th_da dtX3_come 21 rfl) rfl ?_
    refine V_iload (pc := 38) X (th_da dtX3_come 22 rfl) rfl ?_
    obtain ⟨u3, h3, e3, hf⟩ := th_bd_some hf
    refine V_callVi (pc := 40) (q := 1) (As := [.int x1, .int x2, .int x3, .int x4, .int x5]) X (th_da dtX3_come 23 rfl) (mX1_takeIn l 1 isQ_1 _ _ _ _ _ _ _ _ e3) wcd_X1_takeIn wml_X3_76 wim_X1_takeIn wse_X1_takeIn win_X1_takeIn hd_X1_takeIn ⟨Nat.le_of_ble_eq_true rfl, Nat.le_of_ble_eq_true rfl⟩ (Nat.le_of_ble_eq_true rfl) rfl rfl rfl ?_
    exact V_iretF (pc := 43) X (th_da dtX3_come 24 rfl) hf
  · rw [if_neg c2] at hf
    refine V_aload_n (pc := 22) X (th_da dtX3_come 12 rfl) rfl ?_
    refine V_iload (pc := 23) X (th_da dtX3_come 13 rfl) rfl ?_
    obtain ⟨u4, h4, e4, hf⟩ := th_bd_some hf
    refine V_callVi (pc := 25) (q := 0) (As := [.int u1]) X (th_da dtX3_come 14 rfl) (mX3_refuse l _ _ _ _ e4) wcd_X3_refuse wml_X3_56 wim_X3_refuse wse_X3_refuse win_X3_refuse hd_X3_refuse ⟨Nat.le_of_ble_eq_true rfl, Nat.le_of_ble_eq_true rfl⟩ (Nat.le_of_ble_eq_true rfl) rfl rfl rfl ?_
    exact V_iretF (pc := 28) X (th_da dtX3_come 15 rfl) hf
end
def fX3_go (x1 : Int32) (h : th_H) : Option (Int32 × th_H) :=
  th_bd (fX0_has 2 x1 h) fun u1 h1 =>
  if (u1 = 0 : Prop) then
    th_bd (fX3_refuse 1 h1) fun u3 h3 =>
    some (u3, h3)
  else
    th_bd (fX1_letGo 1 x1 h1) fun _u4 h4 =>
    th_bd (fJ6_bitCount_0f7a4 (h4.1 2 7) h4) fun u5 h5 =>
    some (u5, h5)
def tbX3_go : List (Nat × Instr × Nat) := [(0, .aload_n 0, 1), (1, .getfield 20, 3), (4, .iload_n 1, 1), (5, .invokevirtual 80, 3), (8, .ifCond .ne 9, 3), (11, .aload_n 0, 1), (12, .iconst 1, 1), (13, .invokevirtual 56, 3), (16, .ireturn, 1), (17, .aload_n 0, 1), (18, .getfield 12, 3), (21, .iload_n 1, 1), (22, .invokevirtual 83, 3), (25, .aload_n 0, 1), (26, .getfield 20, 3), (29, .getfield 87, 3), (32, .invokestatic 91, 3), (35, .ireturn, 1)]
theorem dtX3_go : th_dec cX3_go tbX3_go = true := by decide +kernel
section
variable {p0 : Program} {l : Launch} {e : Env} {s : State} {m : MethodId} {args : Array Value} {below : List Frame} {meth : Method} {c : Code} {D : va_G} {cI cZ : ClassId} {ad : Nat → Nat} {rr : Int32} {hh : th_H}
set_option maxHeartbeats 4000000 in
set_option maxRecDepth 100000 in
theorem mX3_go (l : Launch) (x1 : Int32) (h : th_H) (rr : Int32) (hh : th_H) (hf : fX3_go x1 h = some (rr, hh)) : th_MI l LC yX3_go cX3_go 2 (some .int) 4 88 [.ref 0, .int x1] h (some (.int rr)) hh := by
  refine th_MI_of (ls := [.ref 0, .int x1]) RX3 rfl rfl rfl (Nat.le_of_ble_eq_true rfl) ?_
  intro p0 e s m args below meth c D cI cZ ad X
  unfold fX3_go at hf
  refine V_aload_n (pc := 0) X (th_da dtX3_go 0 rfl) rfl ?_
  refine V_getR (pc := 1) (j := 1) (t := 2) X (th_da dtX3_go 1 rfl) wfl_X3_20 iX3 rfl rfl (Nat.le_of_ble_eq_true rfl) rfl ?_
  refine V_iload_n (pc := 4) X (th_da dtX3_go 2 rfl) rfl ?_
  obtain ⟨u1, h1, e1, hf⟩ := th_bd_some hf
  refine V_callVi (pc := 5) (q := 2) (As := [.int x1]) X (th_da dtX3_go 3 rfl) (mX0_has l 2 isP_2 _ _ _ _ e1) wcd_X0_has wml_X3_80 wim_X0_has wse_X0_has win_X0_has hd_X0_has ⟨Nat.le_of_ble_eq_true rfl, Nat.le_of_ble_eq_true rfl⟩ (Nat.le_of_ble_eq_true rfl) rfl rfl rfl ?_
  refine V_if_ne (pc := 8) (tgt := 17) X (th_da dtX3_go 4 rfl) (by decide) (fun c2 => ?_) (fun c2 => ?_)
  · rw [if_pos c2] at hf
    refine V_aload_n (pc := 11) X (th_da dtX3_go 5 rfl) rfl ?_
    refine V_iconst (pc := 12) (v := 1) X (th_da dtX3_go 6 rfl) (by decide) ?_
    obtain ⟨u3, h3, e3, hf⟩ := th_bd_some hf
    refine V_callVi (pc := 13) (q := 0) (As := [.int 1]) X (th_da dtX3_go 7 rfl) (mX3_refuse l _ _ _ _ e3) wcd_X3_refuse wml_X3_56 wim_X3_refuse wse_X3_refuse win_X3_refuse hd_X3_refuse ⟨Nat.le_of_ble_eq_true rfl, Nat.le_of_ble_eq_true rfl⟩ (Nat.le_of_ble_eq_true rfl) rfl rfl rfl ?_
    exact V_iretF (pc := 16) X (th_da dtX3_go 8 rfl) hf
  · rw [if_neg c2] at hf
    refine V_aload_n (pc := 17) X (th_da dtX3_go 9 rfl) rfl ?_
    refine V_getR (pc := 18) (j := 0) (t := 1) X (th_da dtX3_go 10 rfl) wfl_X3_12 iX3 rfl rfl (Nat.le_of_ble_eq_true rfl) rfl ?_
    refine V_iload_n (pc := 21) X (th_da dtX3_go 11 rfl) rfl ?_
    obtain ⟨u4, h4, e4, hf⟩ := th_bd_some hf
    refine V_callVv (pc := 22) (q := 1) (As := [.int x1]) X (th_da dtX3_go 12 rfl) (mX1_letGo l 1 isQ_1 _ _ _ _ e4) wcd_X1_letGo wml_X3_83 wim_X1_letGo wse_X1_letGo win_X1_letGo hd_X1_letGo ⟨Nat.le_of_ble_eq_true rfl, Nat.le_of_ble_eq_true rfl⟩ (Nat.le_of_ble_eq_true rfl) rfl rfl rfl ?_
    refine V_aload_n (pc := 25) X (th_da dtX3_go 13 rfl) rfl ?_
    refine V_getR (pc := 26) (j := 1) (t := 2) X (th_da dtX3_go 14 rfl) wfl_X3_20 iX3 rfl rfl (Nat.le_of_ble_eq_true rfl) rfl ?_
    refine V_getI (pc := 29) (j := 7) X (th_da dtX3_go 15 rfl) wfl_X3_87 iX0 rfl rfl (Nat.le_of_ble_eq_true rfl) rfl ?_
    obtain ⟨u5, h5, e5, hf⟩ := th_bd_some hf
    refine V_callSi (pc := 32) (As := [.int (h4.1 2 7)]) X (th_da dtX3_go 16 rfl) (mJ6_bitCount_0f7a4 l _ _ _ _ e5) wcd_J6_bitCount_0f7a4 wml_X3_91 wst_J6_bitCount_0f7a4 win_J6_bitCount_0f7a4 hd_J6_bitCount_0f7a4 ⟨Nat.le_of_ble_eq_true rfl, Nat.le_of_ble_eq_true rfl⟩ (Nat.le_of_ble_eq_true rfl) rfl ?_
    exact V_iretF (pc := 35) X (th_da dtX3_go 17 rfl) hf
end
def fX3_canBe_c19 (y1 : Int32) (h : th_H) : Option (Int32 × th_H) :=
  th_bd (fX3_isAmount y1 h) fun u1 h1 =>
  if (u1 = 0 : Prop) then
    some (0, h1)
  else
    some (1, h1)
def fX3_canBe (x0 : Int32) (x1 : Int32) (h : th_H) : Option (Int32 × th_H) :=
  if (x0 = 0 : Prop) then
    th_bd (fX3_isWeight x1 h) fun u2 h2 =>
    th_gb u2 <|
    some (u2, h2)
  else
    if (x0 = 1 : Prop) then
      fX3_canBe_c19 x1 h
    else
      if (x0 = 2 : Prop) then
        fX3_canBe_c19 x1 h
      else
        some (0, h)
def tbX3_canBe : List (Nat × Instr × Nat) := [(0, .iload_n 0, 1), (1, .ifCond .ne 8, 3), (4, .iload_n 1, 1), (5, .invokestatic 340, 3), (8, .ireturn, 1), (9, .iload_n 0, 1), (10, .iconst 1, 1), (11, .if_icmp .eq 8, 3), (14, .iload_n 0, 1), (15, .iconst 2, 1), (16, .if_icmp .ne 14, 3), (19, .iload_n 1, 1), (20, .invokestatic 53, 3), (23, .ifCond .eq 7, 3), (26, .iconst 1, 1), (27, .goto 4, 3), (30, .iconst 0, 1), (31, .ireturn, 1)]
theorem dtX3_canBe : th_dec cX3_canBe tbX3_canBe = true := by decide +kernel
section
variable {p0 : Program} {l : Launch} {e : Env} {s : State} {m : MethodId} {args : Array Value} {below : List Frame} {meth : Method} {c : Code} {D : va_G} {cI cZ : ClassId} {ad : Nat → Nat} {rr : Int32} {hh : th_H}
set_option maxHeartbeats 4000000 in
set_option maxRecDepth 100000 in
theorem tX3_canBe_c19 (X : th_X p0 s m args meth c D cI cZ ad LC 2 RX3 cX3_canBe (some .boolean)) (y1 : Int32) (h : th_H) (hf : fX3_canBe_c19 y1 h = some (rr, hh)) : th_V p0 l e { frames := 1, cells := 0, slots := 0, locals := 20 } s m args below meth c D cI cZ ad LC 2 (some (.int rr)) hh 19 [.null, .int y1] [] h := by
  unfold fX3_canBe_c19 at hf
  refine V_iload_n (pc := 19) X (th_da dtX3_canBe 11 rfl) rfl ?_
  obtain ⟨u1, h1, e1, hf⟩ := th_bd_some hf
  refine V_callSi (pc := 20) (As := [.int y1]) X (th_da dtX3_canBe 12 rfl) (mX3_isAmount l _ _ _ _ e1) wcd_X3_isAmount wml_X3_53 wst_X3_isAmount win_X3_isAmount hd_X3_isAmount ⟨Nat.le_of_ble_eq_true rfl, Nat.le_of_ble_eq_true rfl⟩ (Nat.le_of_ble_eq_true rfl) rfl ?_
  refine V_if_eq (pc := 23) (tgt := 30) X (th_da dtX3_canBe 13 rfl) (by decide) (fun c2 => ?_) (fun c2 => ?_)
  · rw [if_pos c2] at hf
    refine V_iconst (pc := 30) (v := 0) X (th_da dtX3_canBe 16 rfl) (by decide) ?_
    exact V_zretF (pc := 31) X (th_da dtX3_canBe 17 rfl) (Or.inl rfl) hf
  · rw [if_neg c2] at hf
    refine V_iconst (pc := 26) (v := 1) X (th_da dtX3_canBe 14 rfl) (by decide) ?_
    refine V_goto (pc := 27) (tgt := 31) X (th_da dtX3_canBe 15 rfl) (by decide) ?_
    exact V_zretF (pc := 31) X (th_da dtX3_canBe 17 rfl) (Or.inr rfl) hf
set_option maxHeartbeats 4000000 in
set_option maxRecDepth 100000 in
theorem mX3_canBe (l : Launch) (x0 : Int32) (x1 : Int32) (h : th_H) (rr : Int32) (hh : th_H) (hf : fX3_canBe x0 x1 h = some (rr, hh)) : th_MI l LC yX3_canBe cX3_canBe 2 (some .boolean) 1 20 [.int x0, .int x1] h (some (.int rr)) hh := by
  refine th_MI_of (ls := [.int x0, .int x1]) RX3 rfl rfl rfl (Nat.le_of_ble_eq_true rfl) ?_
  intro p0 e s m args below meth c D cI cZ ad X
  unfold fX3_canBe at hf
  refine V_iload_n (pc := 0) X (th_da dtX3_canBe 0 rfl) rfl ?_
  refine V_if_ne (pc := 1) (tgt := 9) X (th_da dtX3_canBe 1 rfl) (by decide) (fun c1 => ?_) (fun c1 => ?_)
  · rw [if_pos c1] at hf
    refine V_iload_n (pc := 4) X (th_da dtX3_canBe 2 rfl) rfl ?_
    obtain ⟨u2, h2, e2, hf⟩ := th_bd_some hf
    refine V_callSi (pc := 5) (As := [.int x1]) X (th_da dtX3_canBe 3 rfl) (mX3_isWeight l _ _ _ _ e2) wcd_X3_isWeight wml_X3_340 wst_X3_isWeight win_X3_isWeight hd_X3_isWeight ⟨Nat.le_of_ble_eq_true rfl, Nat.le_of_ble_eq_true rfl⟩ (Nat.le_of_ble_eq_true rfl) rfl ?_
    obtain ⟨g3, hf⟩ := th_gb_some hf
    exact V_zretF (pc := 8) X (th_da dtX3_canBe 4 rfl) g3 hf
  · rw [if_neg c1] at hf
    refine V_iload_n (pc := 9) X (th_da dtX3_canBe 5 rfl) rfl ?_
    refine V_iconst (pc := 10) (v := 1) X (th_da dtX3_canBe 6 rfl) (by decide) ?_
    refine V_icmp_eq (pc := 11) (tgt := 19) X (th_da dtX3_canBe 7 rfl) (by decide) (fun c4 => ?_) (fun c4 => ?_)
    · rw [if_pos c4] at hf
      refine V_mask [false, true] (ls2 := [.null, .int x1]) rfl ?_
      exact tX3_canBe_c19 X _ _ hf
    · rw [if_neg c4] at hf
      refine V_iload_n (pc := 14) X (th_da dtX3_canBe 8 rfl) rfl ?_
      refine V_iconst (pc := 15) (v := 2) X (th_da dtX3_canBe 9 rfl) (by decide) ?_
      refine V_icmp_ne (pc := 16) (tgt := 30) X (th_da dtX3_canBe 10 rfl) (by decide) (fun c5 => ?_) (fun c5 => ?_)
      · rw [if_pos c5] at hf
        refine V_mask [false, true] (ls2 := [.null, .int x1]) rfl ?_
        exact tX3_canBe_c19 X _ _ hf
      · rw [if_neg c5] at hf
        refine V_iconst (pc := 30) (v := 0) X (th_da dtX3_canBe 16 rfl) (by decide) ?_
        exact V_zretF (pc := 31) X (th_da dtX3_canBe 17 rfl) (Or.inl rfl) hf
end
def fX3_change_c73 (y1 : Int32) (y2 : Int32) (y3 : Int32) (h : th_H) : Option (Int32 × th_H) :=
  th_bd (fX0_partOf 2 y1 y2 h) fun u1 h1 =>
  if (u1 = y3 : Prop) then
    th_bd (fX3_refuse 2 h1) fun u3 h3 =>
    some (u3, h3)
  else
    if (y2 = 1 : Prop) then
      th_rd h1 6 20 y1 fun v5 =>
      th_bd (fX0_hasRoom 2 v5 (y3 - u1) h1) fun u6 h6 =>
      if (u6 = 0 : Prop) then
        th_bd (fX3_refuse 4 h6) fun u8 h8 =>
        some (u8, h8)
      else
        th_bd (fX0_setPart 2 y1 y2 y3 h6) fun _u9 h9 =>
        some (u1, h9)
    else
      th_bd (fX0_setPart 2 y1 y2 y3 h1) fun _u10 h10 =>
      some (u1, h10)
def fX3_change_c49 (y1 : Int32) (y2 : Int32) (y3 : Int32) (h : th_H) : Option (Int32 × th_H) :=
  if (y2 = 2 : Prop) then
    th_rd h 8 20 y1 fun v2 =>
    if (y3 < v2 : Prop) then
      th_bd (fX3_refuse 0 h) fun u4 h4 =>
      some (u4, h4)
    else
      fX3_change_c73 y1 y2 y3 h
  else
    fX3_change_c73 y1 y2 y3 h
def fX3_change (x1 : Int32) (x2 : Int32) (x3 : Int32) (h : th_H) : Option (Int32 × th_H) :=
  th_bd (fX3_canBe x2 x3 h) fun u1 h1 =>
  if (u1 = 0 : Prop) then
    th_bd (fX3_refuse 0 h1) fun u3 h3 =>
    some (u3, h3)
  else
    th_bd (fX0_has 2 x1 h1) fun u4 h4 =>
    if (u4 = 0 : Prop) then
      th_bd (fX3_refuse 1 h4) fun u6 h6 =>
      some (u6, h6)
    else
      if (x2 = 1 : Prop) then
        th_rd h4 9 20 x1 fun v8 =>
        if (v8 < x3 : Prop) then
          th_bd (fX3_refuse 0 h4) fun u10 h10 =>
          some (u10, h10)
        else
          fX3_change_c49 x1 x2 x3 h4
      else
        fX3_change_c49 x1 x2 x3 h4
def tbX3_change : List (Nat × Instr × Nat) := [(0, .iload_n 2, 1), (1, .iload_n 3, 1), (2, .invokestatic 96, 3), (5, .ifCond .ne 9, 3), (8, .aload_n 0, 1), (9, .iconst 0, 1), (10, .invokevirtual 56, 3), (13, .ireturn, 1), (14, .aload_n 0, 1), (15, .getfield 20, 3), (18, .iload_n 1, 1), (19, .invokevirtual 80, 3), (22, .ifCond .ne 9, 3), (25, .aload_n 0, 1), (26, .iconst 1, 1), (27, .invokevirtual 56, 3), (30, .ireturn, 1), (31, .iload_n 2, 1), (32, .iconst 1, 1), (33, .if_icmp .ne 16, 3), (36, .iload_n 3, 1), (37, .aload_n 0, 1), (38, .getfield 20, 3), (41, .getfield 100, 3), (44, .iload_n 1, 1), (45, .iaload, 1), (46, .if_icmp .gt 21, 3), (49, .iload_n 2, 1), (50, .iconst 2, 1), (51, .if_icmp .ne 22, 3), (54, .iload_n 3, 1), (55, .aload_n 0, 1), (56, .getfield 20, 3), (59, .getfield 103, 3), (62, .iload_n 1, 1), (63, .iaload, 1), (64, .if_icmp .ge 9, 3), (67, .aload_n 0, 1), (68, .iconst 0, 1), (69, .invokevirtual 56, 3), (72, .ireturn, 1), (73, .aload_n 0, 1), (74, .getfield 20, 3), (77, .iload_n 1, 1), (78, .iload_n 2, 1), (79, .invokevirtual 106, 3), (82, .istore 4, 2), (84, .iload 4, 2), (86, .iload_n 3, 1), (87, .if_icmp .ne 9, 3), (90, .aload_n 0, 1), (91, .iconst 2, 1), (92, .invokevirtual 56, 3), (95, .ireturn, 1), (96, .iload_n 2, 1), (97, .iconst 1, 1), (98, .if_icmp .ne 32, 3), (101, .aload_n 0, 1), (102, .getfield 20, 3), (105, .aload_n 0, 1), (106, .getfield 20, 3), (109, .getfield 110, 3), (112, .iload_n 1, 1), (113, .iaload, 1), (114, .iload_n 3, 1), (115, .iload 4, 2), (117, .isub, 1), (118, .invokevirtual 113, 3), (121, .ifCond .ne 9, 3), (124, .aload_n 0, 1), (125, .iconst 4, 1), (126, .invokevirtual 56, 3), (129, .ireturn, 1), (130, .aload_n 0, 1), (131, .getfield 20, 3), (134, .iload_n 1, 1), (135, .iload_n 2, 1), (136, .iload_n 3, 1), (137, .invokevirtual 116, 3), (140, .iload 4, 2), (142, .ireturn, 1)]
theorem dtX3_change : th_dec cX3_change tbX3_change = true := by decide +kernel
section
variable {p0 : Program} {l : Launch} {e : Env} {s : State} {m : MethodId} {args : Array Value} {below : List Frame} {meth : Method} {c : Code} {D : va_G} {cI cZ : ClassId} {ad : Nat → Nat} {rr : Int32} {hh : th_H}
set_option maxHeartbeats 4000000 in
set_option maxRecDepth 100000 in
theorem tX3_change_c73 (X : th_X p0 s m args meth c D cI cZ ad LC 5 RX3 cX3_change (some .int)) (y1 : Int32) (y2 : Int32) (y3 : Int32) (h : th_H) (hf : fX3_change_c73 y1 y2 y3 h = some (rr, hh)) : th_V p0 l e { frames := 2, cells := 0, slots := 0, locals := 46 } s m args below meth c D cI cZ ad LC 5 (some (.int rr)) hh 73 [.ref 0, .int y1, .int y2, .int y3, .null] [] h := by
  unfold fX3_change_c73 at hf
  refine V_aload_n (pc := 73) X (th_da dtX3_change 41 rfl) rfl ?_
  refine V_getR (pc := 74) (j := 1) (t := 2) X (th_da dtX3_change 42 rfl) wfl_X3_20 iX3 rfl rfl (Nat.le_of_ble_eq_true rfl) rfl ?_
  refine V_iload_n (pc := 77) X (th_da dtX3_change 43 rfl) rfl ?_
  refine V_iload_n (pc := 78) X (th_da dtX3_change 44 rfl) rfl ?_
  obtain ⟨u1, h1, e1, hf⟩ := th_bd_some hf
  refine V_callVi (pc := 79) (q := 2) (As := [.int y1, .int y2]) X (th_da dtX3_change 45 rfl) (mX0_partOf l 2 isP_2 _ _ _ _ _ e1) wcd_X0_partOf wml_X3_106 wim_X0_partOf wse_X0_partOf win_X0_partOf hd_X0_partOf ⟨Nat.le_of_ble_eq_true rfl, Nat.le_of_ble_eq_true rfl⟩ (Nat.le_of_ble_eq_true rfl) rfl rfl rfl ?_
  refine V_istore (pc := 82) (ls2 := [.ref 0, .int y1, .int y2, .int y3, .int u1]) X (th_da dtX3_change 46 rfl) (Nat.le_of_ble_eq_true rfl) rfl rfl ?_
  refine V_iload (pc := 84) X (th_da dtX3_change 47 rfl) rfl ?_
  refine V_iload_n (pc := 86) X (th_da dtX3_change 48 rfl) rfl ?_
  refine V_icmp_ne (pc := 87) (tgt := 96) X (th_da dtX3_change 49 rfl) (by decide) (fun c2 => ?_) (fun c2 => ?_)
  · rw [if_pos c2] at hf
    refine V_aload_n (pc := 90) X (th_da dtX3_change 50 rfl) rfl ?_
    refine V_iconst (pc := 91) (v := 2) X (th_da dtX3_change 51 rfl) (by decide) ?_
    obtain ⟨u3, h3, e3, hf⟩ := th_bd_some hf
    refine V_callVi (pc := 92) (q := 0) (As := [.int 2]) X (th_da dtX3_change 52 rfl) (mX3_refuse l _ _ _ _ e3) wcd_X3_refuse wml_X3_56 wim_X3_refuse wse_X3_refuse win_X3_refuse hd_X3_refuse ⟨Nat.le_of_ble_eq_true rfl, Nat.le_of_ble_eq_true rfl⟩ (Nat.le_of_ble_eq_true rfl) rfl rfl rfl ?_
    exact V_iretF (pc := 95) X (th_da dtX3_change 53 rfl) hf
  · rw [if_neg c2] at hf
    refine V_iload_n (pc := 96) X (th_da dtX3_change 54 rfl) rfl ?_
    refine V_iconst (pc := 97) (v := 1) X (th_da dtX3_change 55 rfl) (by decide) ?_
    refine V_icmp_ne (pc := 98) (tgt := 130) X (th_da dtX3_change 56 rfl) (by decide) (fun c4 => ?_) (fun c4 => ?_)
    · rw [if_pos c4] at hf
      refine V_aload_n (pc := 101) X (th_da dtX3_change 57 rfl) rfl ?_
      refine V_getR (pc := 102) (j := 1) (t := 2) X (th_da dtX3_change 58 rfl) wfl_X3_20 iX3 rfl rfl (Nat.le_of_ble_eq_true rfl) rfl ?_
      refine V_aload_n (pc := 105) X (th_da dtX3_change 59 rfl) rfl ?_
      refine V_getR (pc := 106) (j := 1) (t := 2) X (th_da dtX3_change 60 rfl) wfl_X3_20 iX3 rfl rfl (Nat.le_of_ble_eq_true rfl) rfl ?_
      refine V_getR (pc := 109) (j := 3) (t := 6) X (th_da dtX3_change 61 rfl) wfl_X3_110 iX0 rfl rfl (Nat.le_of_ble_eq_true rfl) rfl ?_
      refine V_iload_n (pc := 112) X (th_da dtX3_change 62 rfl) rfl ?_
      obtain ⟨v5, e5, g5, hf⟩ := th_rd_some hf
      refine V_iald (pc := 113) X (th_da dtX3_change 63 rfl) rfl g5 e5 ?_
      refine V_iload_n (pc := 114) X (th_da dtX3_change 64 rfl) rfl ?_
      refine V_iload (pc := 115) X (th_da dtX3_change 65 rfl) rfl ?_
      refine V_isub (pc := 117) X (th_da dtX3_change 66 rfl) ?_
      obtain ⟨u6, h6, e6, hf⟩ := th_bd_some hf
      refine V_callVi (pc := 118) (q := 2) (As := [.int v5, .int (y3 - u1)]) X (th_da dtX3_change 67 rfl) (mX0_hasRoom l 2 isP_2 _ _ _ _ _ e6) wcd_X0_hasRoom wml_X3_113 wim_X0_hasRoom wse_X0_hasRoom win_X0_hasRoom hd_X0_hasRoom ⟨Nat.le_of_ble_eq_true rfl, Nat.le_of_ble_eq_true rfl⟩ (Nat.le_of_ble_eq_true rfl) rfl rfl rfl ?_
      refine V_if_ne (pc := 121) (tgt := 130) X (th_da dtX3_change 68 rfl) (by decide) (fun c7 => ?_) (fun c7 => ?_)
      · rw [if_pos c7] at hf
        refine V_aload_n (pc := 124) X (th_da dtX3_change 69 rfl) rfl ?_
        refine V_iconst (pc := 125) (v := 4) X (th_da dtX3_change 70 rfl) (by decide) ?_
        obtain ⟨u8, h8, e8, hf⟩ := th_bd_some hf
        refine V_callVi (pc := 126) (q := 0) (As := [.int 4]) X (th_da dtX3_change 71 rfl) (mX3_refuse l _ _ _ _ e8) wcd_X3_refuse wml_X3_56 wim_X3_refuse wse_X3_refuse win_X3_refuse hd_X3_refuse ⟨Nat.le_of_ble_eq_true rfl, Nat.le_of_ble_eq_true rfl⟩ (Nat.le_of_ble_eq_true rfl) rfl rfl rfl ?_
        exact V_iretF (pc := 129) X (th_da dtX3_change 72 rfl) hf
      · rw [if_neg c7] at hf
        refine V_aload_n (pc := 130) X (th_da dtX3_change 73 rfl) rfl ?_
        refine V_getR (pc := 131) (j := 1) (t := 2) X (th_da dtX3_change 74 rfl) wfl_X3_20 iX3 rfl rfl (Nat.le_of_ble_eq_true rfl) rfl ?_
        refine V_iload_n (pc := 134) X (th_da dtX3_change 75 rfl) rfl ?_
        refine V_iload_n (pc := 135) X (th_da dtX3_change 76 rfl) rfl ?_
        refine V_iload_n (pc := 136) X (th_da dtX3_change 77 rfl) rfl ?_
        obtain ⟨u9, h9, e9, hf⟩ := th_bd_some hf
        refine V_callVv (pc := 137) (q := 2) (As := [.int y1, .int y2, .int y3]) X (th_da dtX3_change 78 rfl) (mX0_setPart l 2 isP_2 _ _ _ _ _ _ e9) wcd_X0_setPart wml_X3_116 wim_X0_setPart wse_X0_setPart win_X0_setPart hd_X0_setPart ⟨Nat.le_of_ble_eq_true rfl, Nat.le_of_ble_eq_true rfl⟩ (Nat.le_of_ble_eq_true rfl) rfl rfl rfl ?_
        refine V_iload (pc := 140) X (th_da dtX3_change 79 rfl) rfl ?_
        exact V_iretF (pc := 142) X (th_da dtX3_change 80 rfl) hf
    · rw [if_neg c4] at hf
      refine V_aload_n (pc := 130) X (th_da dtX3_change 73 rfl) rfl ?_
      refine V_getR (pc := 131) (j := 1) (t := 2) X (th_da dtX3_change 74 rfl) wfl_X3_20 iX3 rfl rfl (Nat.le_of_ble_eq_true rfl) rfl ?_
      refine V_iload_n (pc := 134) X (th_da dtX3_change 75 rfl) rfl ?_
      refine V_iload_n (pc := 135) X (th_da dtX3_change 76 rfl) rfl ?_
      refine V_iload_n (pc := 136) X (th_da dtX3_change 77 rfl) rfl ?_
      obtain ⟨u10, h10, e10, hf⟩ := th_bd_some hf
      refine V_callVv (pc := 137) (q := 2) (As := [.int y1, .int y2, .int y3]) X (th_da dtX3_change 78 rfl) (mX0_setPart l 2 isP_2 _ _ _ _ _ _ e10) wcd_X0_setPart wml_X3_116 wim_X0_setPart wse_X0_setPart win_X0_setPart hd_X0_setPart ⟨Nat.le_of_ble_eq_true rfl, Nat.le_of_ble_eq_true rfl⟩ (Nat.le_of_ble_eq_true rfl) rfl rfl rfl ?_
      refine V_iload (pc := 140) X (th_da dtX3_change 79 rfl) rfl ?_
      exact V_iretF (pc := 142) X (th_da dtX3_change 80 rfl) hf
set_option maxHeartbeats 4000000 in
set_option maxRecDepth 100000 in
theorem tX3_change_c49 (X : th_X p0 s m args meth c D cI cZ ad LC 5 RX3 cX3_change (some .int)) (y1 : Int32) (y2 : Int32) (y3 : Int32) (h : th_H) (hf : fX3_change_c49 y1 y2 y3 h = some (rr, hh)) : th_V p0 l e { frames := 2, cells := 0, slots := 0, locals := 46 } s m args below meth c D cI cZ ad LC 5 (some (.int rr)) hh 49 [.ref 0, .int y1, .int y2, .int y3, .null] [] h := by
  unfold fX3_change_c49 at hf
  refine V_iload_n (pc := 49) X (th_da dtX3_change 27 rfl) rfl ?_
  refine V_iconst (pc := 50) (v := 2) X (th_da dtX3_change 28 rfl) (by decide) ?_
  refine V_icmp_ne (pc := 51) (tgt := 73) X (th_da dtX3_change 29 rfl) (by decide) (fun c1 => ?_) (fun c1 => ?_)
  · rw [if_pos c1] at hf
    refine V_iload_n (pc := 54) X (th_da dtX3_change 30 rfl) rfl ?_
    refine V_aload_n (pc := 55) X (th_da dtX3_change 31 rfl) rfl ?_
    refine V_getR (pc := 56) (j := 1) (t := 2) X (th_da dtX3_change 32 rfl) wfl_X3_20 iX3 rfl rfl (Nat.le_of_ble_eq_true rfl) rfl ?_
    refine V_getR (pc := 59) (j := 5) (t := 8) X (th_da dtX3_change 33 rfl) wfl_X3_103 iX0 rfl rfl (Nat.le_of_ble_eq_true rfl) rfl ?_
    refine V_iload_n (pc := 62) X (th_da dtX3_change 34 rfl) rfl ?_
    obtain ⟨v2, e2, g2, hf⟩ := th_rd_some hf
    refine V_iald (pc := 63) X (th_da dtX3_change 35 rfl) rfl g2 e2 ?_
    refine V_icmp_ge (pc := 64) (tgt := 73) X (th_da dtX3_change 36 rfl) (by decide) (fun c3 => ?_) (fun c3 => ?_)
    · rw [if_pos c3] at hf
      refine V_aload_n (pc := 67) X (th_da dtX3_change 37 rfl) rfl ?_
      refine V_iconst (pc := 68) (v := 0) X (th_da dtX3_change 38 rfl) (by decide) ?_
      obtain ⟨u4, h4, e4, hf⟩ := th_bd_some hf
      refine V_callVi (pc := 69) (q := 0) (As := [.int 0]) X (th_da dtX3_change 39 rfl) (mX3_refuse l _ _ _ _ e4) wcd_X3_refuse wml_X3_56 wim_X3_refuse wse_X3_refuse win_X3_refuse hd_X3_refuse ⟨Nat.le_of_ble_eq_true rfl, Nat.le_of_ble_eq_true rfl⟩ (Nat.le_of_ble_eq_true rfl) rfl rfl rfl ?_
      exact V_iretF (pc := 72) X (th_da dtX3_change 40 rfl) hf
    · rw [if_neg c3] at hf
      exact tX3_change_c73 X _ _ _ _ hf
  · rw [if_neg c1] at hf
    exact tX3_change_c73 X _ _ _ _ hf
set_option maxHeartbeats 4000000 in
set_option maxRecDepth 100000 in
theorem mX3_change (l : Launch) (x1 : Int32) (x2 : Int32) (x3 : Int32) (h : th_H) (rr : Int32) (hh : th_H) (hf : fX3_change x1 x2 x3 h = some (rr, hh)) : th_MI l LC yX3_change cX3_change 5 (some .int) 2 46 [.ref 0, .int x1, .int x2, .int x3] h (some (.int rr)) hh := by
  refine th_MI_of (ls := [.ref 0, .int x1, .int x2, .int x3, .null]) RX3 rfl rfl rfl (Nat.le_of_ble_eq_true rfl) ?_
  intro p0 e s m args below meth c D cI cZ ad X
  unfold fX3_change at hf
  refine V_iload_n (pc := 0) X (th_da dtX3_change 0 rfl) rfl ?_
  refine V_iload_n (pc := 1) X (th_da dtX3_change 1 rfl) rfl ?_
  obtain ⟨u1, h1, e1, hf⟩ := th_bd_some hf
  refine V_callSi (pc := 2) (As := [.int x2, .int x3]) X (th_da dtX3_change 2 rfl) (mX3_canBe l _ _ _ _ _ e1) wcd_X3_canBe wml_X3_96 wst_X3_canBe win_X3_canBe hd_X3_canBe ⟨Nat.le_of_ble_eq_true rfl, Nat.le_of_ble_eq_true rfl⟩ (Nat.le_of_ble_eq_true rfl) rfl ?_
  refine V_if_ne (pc := 5) (tgt := 14) X (th_da dtX3_change 3 rfl) (by decide) (fun c2 => ?_) (fun c2 => ?_)
  · rw [if_pos c2] at hf
    refine V_aload_n (pc := 8) X (th_da dtX3_change 4 rfl) rfl ?_
    refine V_iconst (pc := 9) (v := 0) X (th_da dtX3_change 5 rfl) (by decide) ?_
    obtain ⟨u3, h3, e3, hf⟩ := th_bd_some hf
    refine V_callVi (pc := 10) (q := 0) (As := [.int 0]) X (th_da dtX3_change 6 rfl) (mX3_refuse l _ _ _ _ e3) wcd_X3_refuse wml_X3_56 wim_X3_refuse wse_X3_refuse win_X3_refuse hd_X3_refuse ⟨Nat.le_of_ble_eq_true rfl, Nat.le_of_ble_eq_true rfl⟩ (Nat.le_of_ble_eq_true rfl) rfl rfl rfl ?_
    exact V_iretF (pc := 13) X (th_da dtX3_change 7 rfl) hf
  · rw [if_neg c2] at hf
    refine V_aload_n (pc := 14) X (th_da dtX3_change 8 rfl) rfl ?_
    refine V_getR (pc := 15) (j := 1) (t := 2) X (th_da dtX3_change 9 rfl) wfl_X3_20 iX3 rfl rfl (Nat.le_of_ble_eq_true rfl) rfl ?_
    refine V_iload_n (pc := 18) X (th_da dtX3_change 10 rfl) rfl ?_
    obtain ⟨u4, h4, e4, hf⟩ := th_bd_some hf
    refine V_callVi (pc := 19) (q := 2) (As := [.int x1]) X (th_da dtX3_change 11 rfl) (mX0_has l 2 isP_2 _ _ _ _ e4) wcd_X0_has wml_X3_80 wim_X0_has wse_X0_has win_X0_has hd_X0_has ⟨Nat.le_of_ble_eq_true rfl, Nat.le_of_ble_eq_true rfl⟩ (Nat.le_of_ble_eq_true rfl) rfl rfl rfl ?_
    refine V_if_ne (pc := 22) (tgt := 31) X (th_da dtX3_change 12 rfl) (by decide) (fun c5 => ?_) (fun c5 => ?_)
    · rw [if_pos c5] at hf
      refine V_aload_n (pc := 25) X (th_da dtX3_change 13 rfl) rfl ?_
      refine V_iconst (pc := 26) (v := 1) X (th_da dtX3_change 14 rfl) (by decide) ?_
      obtain ⟨u6, h6, e6, hf⟩ := th_bd_some hf
      refine V_callVi (pc := 27) (q := 0) (As := [.int 1]) X (th_da dtX3_change 15 rfl) (mX3_refuse l _ _ _ _ e6) wcd_X3_refuse wml_X3_56 wim_X3_refuse wse_X3_refuse win_X3_refuse hd_X3_refuse ⟨Nat.le_of_ble_eq_true rfl, Nat.le_of_ble_eq_true rfl⟩ (Nat.le_of_ble_eq_true rfl) rfl rfl rfl ?_
      exact V_iretF (pc := 30) X (th_da dtX3_change 16 rfl) hf
    · rw [if_neg c5] at hf
      refine V_iload_n (pc := 31) X (th_da dtX3_change 17 rfl) rfl ?_
      refine V_iconst (pc := 32) (v := 1) X (th_da dtX3_change 18 rfl) (by decide) ?_
      refine V_icmp_ne (pc := 33) (tgt := 49) X (th_da dtX3_change 19 rfl) (by decide) (fun c7 => ?_) (fun c7 => ?_)
      · rw [if_pos c7] at hf
        refine V_iload_n (pc := 36) X (th_da dtX3_change 20 rfl) rfl ?_
        refine V_aload_n (pc := 37) X (th_da dtX3_change 21 rfl) rfl ?_
        refine V_getR (pc := 38) (j := 1) (t := 2) X (th_da dtX3_change 22 rfl) wfl_X3_20 iX3 rfl rfl (Nat.le_of_ble_eq_true rfl) rfl ?_
        refine V_getR (pc := 41) (j := 6) (t := 9) X (th_da dtX3_change 23 rfl) wfl_X3_100 iX0 rfl rfl (Nat.le_of_ble_eq_true rfl) rfl ?_
        refine V_iload_n (pc := 44) X (th_da dtX3_change 24 rfl) rfl ?_
        obtain ⟨v8, e8, g8, hf⟩ := th_rd_some hf
        refine V_iald (pc := 45) X (th_da dtX3_change 25 rfl) rfl g8 e8 ?_
        refine V_icmp_gt (pc := 46) (tgt := 67) X (th_da dtX3_change 26 rfl) (by decide) (fun c9 => ?_) (fun c9 => ?_)
        · rw [if_pos c9] at hf
          refine V_aload_n (pc := 67) X (th_da dtX3_change 37 rfl) rfl ?_
          refine V_iconst (pc := 68) (v := 0) X (th_da dtX3_change 38 rfl) (by decide) ?_
          obtain ⟨u10, h10, e10, hf⟩ := th_bd_some hf
          refine V_callVi (pc := 69) (q := 0) (As := [.int 0]) X (th_da dtX3_change 39 rfl) (mX3_refuse l _ _ _ _ e10) wcd_X3_refuse wml_X3_56 wim_X3_refuse wse_X3_refuse win_X3_refuse hd_X3_refuse ⟨Nat.le_of_ble_eq_true rfl, Nat.le_of_ble_eq_true rfl⟩ (Nat.le_of_ble_eq_true rfl) rfl rfl rfl ?_
          exact V_iretF (pc := 72) X (th_da dtX3_change 40 rfl) hf
        · rw [if_neg c9] at hf
          exact tX3_change_c49 X _ _ _ _ hf
      · rw [if_neg c7] at hf
        exact tX3_change_c49 X _ _ _ _ hf
end
def fX3_hold (x1 : Int32) (x2 : Int32) (h : th_H) : Option (Int32 × th_H) :=
  th_bd (fX0_has 2 x1 h) fun u1 h1 =>
  if (u1 = 0 : Prop) then
    th_bd (fX3_refuse 1 h1) fun u3 h3 =>
    some (u3, h3)
  else
    th_bd (fX1_isHeld 1 x1 h1) fun u4 h4 =>
    if (u4 = x2 : Prop) then
      th_bd (fX3_refuse 2 h4) fun u6 h6 =>
      some (u6, h6)
    else
      th_st (th_up h4 1 8 ((h4.1 1 8) ^^^ ((1 : Int32) <<< (x1 &&& 31)))) fun h7 =>
      th_bd (fJ6_bitCount_0f7a4 (h7.1 1 8) h7) fun u8 h8 =>
      some (u8, h8)
def tbX3_hold : List (Nat × Instr × Nat) := [(0, .aload_n 0, 1), (1, .getfield 20, 3), (4, .iload_n 1, 1), (5, .invokevirtual 80, 3), (8, .ifCond .ne 9, 3), (11, .aload_n 0, 1), (12, .iconst 1, 1), (13, .invokevirtual 56, 3), (16, .ireturn, 1), (17, .aload_n 0, 1), (18, .getfield 12, 3), (21, .iload_n 1, 1), (22, .invokevirtual 120, 3), (25, .iload_n 2, 1), (26, .if_icmp .ne 9, 3), (29, .aload_n 0, 1), (30, .iconst 2, 1), (31, .invokevirtual 56, 3), (34, .ireturn, 1), (35, .aload_n 0, 1), (36, .getfield 12, 3), (39, .dup, 1), (40, .getfield 123, 3), (43, .iconst 1, 1), (44, .iload_n 1, 1), (45, .ishl, 1), (46, .ixor, 1), (47, .putfield 123, 3), (50, .aload_n 0, 1), (51, .getfield 12, 3), (54, .getfield 123, 3), (57, .invokestatic 91, 3), (60, .ireturn, 1)]
theorem dtX3_hold : th_dec cX3_hold tbX3_hold = true := by decide +kernel
section
variable {p0 : Program} {l : Launch} {e : Env} {s : State} {m : MethodId} {args : Array Value} {below : List Frame} {meth : Method} {c : Code} {D : va_G} {cI cZ : ClassId} {ad : Nat → Nat} {rr : Int32} {hh : th_H}
set_option maxHeartbeats 4000000 in
set_option maxRecDepth 100000 in
theorem mX3_hold (l : Launch) (x1 : Int32) (x2 : Int32) (h : th_H) (rr : Int32) (hh : th_H) (hf : fX3_hold x1 x2 h = some (rr, hh)) : th_MI l LC yX3_hold cX3_hold 3 (some .int) 1 21 [.ref 0, .int x1, .int x2] h (some (.int rr)) hh := by
  refine th_MI_of (ls := [.ref 0, .int x1, .int x2]) RX3 rfl rfl rfl (Nat.le_of_ble_eq_true rfl) ?_
  intro p0 e s m args below meth c D cI cZ ad X
  unfold fX3_hold at hf
  refine V_aload_n (pc := 0) X (th_da dtX3_hold 0 rfl) rfl ?_
  refine V_getR (pc := 1) (j := 1) (t := 2) X (th_da dtX3_hold 1 rfl) wfl_X3_20 iX3 rfl rfl (Nat.le_of_ble_eq_true rfl) rfl ?_
  refine V_iload_n (pc := 4) X (th_da dtX3_hold 2 rfl) rfl ?_
  obtain ⟨u1, h1, e1, hf⟩ := th_bd_some hf
  refine V_callVi (pc := 5) (q := 2) (As := [.int x1]) X (th_da dtX3_hold 3 rfl) (mX0_has l 2 isP_2 _ _ _ _ e1) wcd_X0_has wml_X3_80 wim_X0_has wse_X0_has win_X0_has hd_X0_has ⟨Nat.le_of_ble_eq_true rfl, Nat.le_of_ble_eq_true rfl⟩ (Nat.le_of_ble_eq_true rfl) rfl rfl rfl ?_
  refine V_if_ne (pc := 8) (tgt := 17) X (th_da dtX3_hold 4 rfl) (by decide) (fun c2 => ?_) (fun c2 => ?_)
  · rw [if_pos c2] at hf
    refine V_aload_n (pc := 11) X (th_da dtX3_hold 5 rfl) rfl ?_
    refine V_iconst (pc := 12) (v := 1) X (th_da dtX3_hold 6 rfl) (by decide) ?_
    obtain ⟨u3, h3, e3, hf⟩ := th_bd_some hf
    refine V_callVi (pc := 13) (q := 0) (As := [.int 1]) X (th_da dtX3_hold 7 rfl) (mX3_refuse l _ _ _ _ e3) wcd_X3_refuse wml_X3_56 wim_X3_refuse wse_X3_refuse win_X3_refuse hd_X3_refuse ⟨Nat.le_of_ble_eq_true rfl, Nat.le_of_ble_eq_true rfl⟩ (Nat.le_of_ble_eq_true rfl) rfl rfl rfl ?_
    exact V_iretF (pc := 16) X (th_da dtX3_hold 8 rfl) hf
  · rw [if_neg c2] at hf
    refine V_aload_n (pc := 17) X (th_da dtX3_hold 9 rfl) rfl ?_
    refine V_getR (pc := 18) (j := 0) (t := 1) X (th_da dtX3_hold 10 rfl) wfl_X3_12 iX3 rfl rfl (Nat.le_of_ble_eq_true rfl) rfl ?_
    refine V_iload_n (pc := 21) X (th_da dtX3_hold 11 rfl) rfl ?_
    obtain ⟨u4, h4, e4, hf⟩ := th_bd_some hf
    refine V_callVi (pc := 22) (q := 1) (As := [.int x1]) X (th_da dtX3_hold 12 rfl) (mX1_isHeld l 1 isQ_1 _ _ _ _ e4) wcd_X1_isHeld wml_X3_120 wim_X1_isHeld wse_X1_isHeld win_X1_isHeld hd_X1_isHeld ⟨Nat.le_of_ble_eq_true rfl, Nat.le_of_ble_eq_true rfl⟩ (Nat.le_of_ble_eq_true rfl) rfl rfl rfl ?_
    refine V_iload_n (pc := 25) X (th_da dtX3_hold 13 rfl) rfl ?_
    refine V_icmp_ne (pc := 26) (tgt := 35) X (th_da dtX3_hold 14 rfl) (by decide) (fun c5 => ?_) (fun c5 => ?_)
    · rw [if_pos c5] at hf
      refine V_aload_n (pc := 29) X (th_da dtX3_hold 15 rfl) rfl ?_
      refine V_iconst (pc := 30) (v := 2) X (th_da dtX3_hold 16 rfl) (by decide) ?_
      obtain ⟨u6, h6, e6, hf⟩ := th_bd_some hf
      refine V_callVi (pc := 31) (q := 0) (As := [.int 2]) X (th_da dtX3_hold 17 rfl) (mX3_refuse l _ _ _ _ e6) wcd_X3_refuse wml_X3_56 wim_X3_refuse wse_X3_refuse win_X3_refuse hd_X3_refuse ⟨Nat.le_of_ble_eq_true rfl, Nat.le_of_ble_eq_true rfl⟩ (Nat.le_of_ble_eq_true rfl) rfl rfl rfl ?_
      exact V_iretF (pc := 34) X (th_da dtX3_hold 18 rfl) hf
    · rw [if_neg c5] at hf
      refine V_aload_n (pc := 35) X (th_da dtX3_hold 19 rfl) rfl ?_
      refine V_getR (pc := 36) (j := 0) (t := 1) X (th_da dtX3_hold 20 rfl) wfl_X3_12 iX3 rfl rfl (Nat.le_of_ble_eq_true rfl) rfl ?_
      refine V_dup (pc := 39) X (th_da dtX3_hold 21 rfl) rfl ?_
      refine V_getI (pc := 40) (j := 8) X (th_da dtX3_hold 22 rfl) wfl_X3_123 iX1 rfl rfl (Nat.le_of_ble_eq_true rfl) rfl ?_
      refine V_iconst (pc := 43) (v := 1) X (th_da dtX3_hold 23 rfl) (by decide) ?_
      refine V_iload_n (pc := 44) X (th_da dtX3_hold 24 rfl) rfl ?_
      refine V_ishl (pc := 45) X (th_da dtX3_hold 25 rfl) ?_
      refine V_ixor (pc := 46) X (th_da dtX3_hold 26 rfl) ?_
      obtain ⟨h7, e7, hf⟩ := th_st_some hf
      refine V_putI (pc := 47) (j := 8) (ty := .int) X (th_da dtX3_hold 27 rfl) wfl_X3_123 iX1 rfl rfl (Nat.le_of_ble_eq_true rfl) rfl tyX1 tyX1_ok nmX1 rfl (tyX1_ok 8 (Nat.le_of_ble_eq_true rfl)) rfl rfl e7 ?_
      refine V_aload_n (pc := 50) X (th_da dtX3_hold 28 rfl) rfl ?_
      refine V_getR (pc := 51) (j := 0) (t := 1) X (th_da dtX3_hold 29 rfl) wfl_X3_12 iX3 rfl rfl (Nat.le_of_ble_eq_true rfl) rfl ?_
      refine V_getI (pc := 54) (j := 8) X (th_da dtX3_hold 30 rfl) wfl_X3_123 iX1 rfl rfl (Nat.le_of_ble_eq_true rfl) rfl ?_
      obtain ⟨u8, h8, e8, hf⟩ := th_bd_some hf
      refine V_callSi (pc := 57) (As := [.int (h7.1 1 8)]) X (th_da dtX3_hold 31 rfl) (mJ6_bitCount_0f7a4 l _ _ _ _ e8) wcd_J6_bitCount_0f7a4 wml_X3_91 wst_J6_bitCount_0f7a4 win_J6_bitCount_0f7a4 hd_J6_bitCount_0f7a4 ⟨Nat.le_of_ble_eq_true rfl, Nat.le_of_ble_eq_true rfl⟩ (Nat.le_of_ble_eq_true rfl) rfl ?_
      exact V_iretF (pc := 60) X (th_da dtX3_hold 32 rfl) hf
end
def fX3_whyNotRoute (x1 : Int32) (x2 : Int32) (h : th_H) : Option (Int32 × th_H) :=
  th_bd (fX3_isPath x2 h) fun u1 h1 =>
  if (u1 = 0 : Prop) then
    some (0, h1)
  else
    th_bd (fX0_has 2 x1 h1) fun u3 h3 =>
    if (u3 = 0 : Prop) then
      some (1, h3)
    else
      th_rd h3 6 20 x1 fun v5 =>
      if (v5 = x2 : Prop) then
        some (2, h3)
      else
        th_rd h3 6 20 x1 fun v7 =>
        th_rd h3 8 20 x1 fun v8 =>
        th_bd (fX0_hasRoom 2 (x2 &&& (v7 ^^^ (-1))) v8 h3) fun u9 h9 =>
        if (u9 = 0 : Prop) then
          some (4, h9)
        else
          some ((-1), h9)
def tbX3_whyNotRoute : List (Nat × Instr × Nat) := [(0, .iload_n 2, 1), (1, .invokestatic 301, 3), (4, .ifCond .ne 5, 3), (7, .iconst 0, 1), (8, .ireturn, 1), (9, .aload_n 0, 1), (10, .getfield 20, 3), (13, .iload_n 1, 1), (14, .invokevirtual 80, 3), (17, .ifCond .ne 5, 3), (20, .iconst 1, 1), (21, .ireturn, 1), (22, .aload_n 0, 1), (23, .getfield 20, 3), (26, .getfield 110, 3), (29, .iload_n 1, 1), (30, .iaload, 1), (31, .iload_n 2, 1), (32, .if_icmp .ne 5, 3), (35, .iconst 2, 1), (36, .ireturn, 1), (37, .iload_n 2, 1), (38, .aload_n 0, 1), (39, .getfield 20, 3), (42, .getfield 110, 3), (45, .iload_n 1, 1), (46, .iaload, 1), (47, .iconst (-1), 1), (48, .ixor, 1), (49, .iand, 1), (50, .istore_n 3, 1), (51, .aload_n 0, 1), (52, .getfield 20, 3), (55, .iload_n 3, 1), (56, .aload_n 0, 1), (57, .getfield 20, 3), (60, .getfield 103, 3), (63, .iload_n 1, 1), (64, .iaload, 1), (65, .invokevirtual 113, 3), (68, .ifCond .eq 7, 3), (71, .iconst (-1), 1), (72, .goto 4, 3), (75, .iconst 4, 1), (76, .ireturn, 1)]
theorem dtX3_whyNotRoute : th_dec cX3_whyNotRoute tbX3_whyNotRoute = true := by decide +kernel
section
variable {p0 : Program} {l : Launch} {e : Env} {s : State} {m : MethodId} {args : Array Value} {below : List Frame} {meth : Method} {c : Code} {D : va_G} {cI cZ : ClassId} {ad : Nat → Nat} {rr : Int32} {hh : th_H}
set_option maxHeartbeats 4000000 in
set_option maxRecDepth 100000 in
theorem mX3_whyNotRoute (l : Launch) (x1 : Int32) (x2 : Int32) (h : th_H) (rr : Int32) (hh : th_H) (hf : fX3_whyNotRoute x1 x2 h = some (rr, hh)) : th_MI l LC yX3_whyNotRoute cX3_whyNotRoute 4 (some .int) 2 46 [.ref 0, .int x1, .int x2] h (some (.int rr)) hh := by
  refine th_MI_of (ls := [.ref 0, .int x1, .int x2, .null]) RX3 rfl rfl rfl (Nat.le_of_ble_eq_true rfl) ?_
  intro p0 e s m args below meth c D cI cZ ad X
  unfold fX3_whyNotRoute at hf
  refine V_iload_n (pc := 0) X (th_da dtX3_whyNotRoute 0 rfl) rfl ?_
  obtain ⟨u1, h1, e1, hf⟩ := th_bd_some hf
  refine V_callSi (pc := 1) (As := [.int x2]) X (th_da dtX3_whyNotRoute 1 rfl) (mX3_isPath l _ _ _ _ e1) wcd_X3_isPath wml_X3_301 wst_X3_isPath win_X3_isPath hd_X3_isPath ⟨Nat.le_of_ble_eq_true rfl, Nat.le_of_ble_eq_true rfl⟩ (Nat.le_of_ble_eq_true rfl) rfl ?_
  refine V_if_ne (pc := 4) (tgt := 9) X (th_da dtX3_whyNotRoute 2 rfl) (by decide) (fun c2 => ?_) (fun c2 => ?_)
  · rw [if_pos c2] at hf
    refine V_iconst (pc := 7) (v := 0) X (th_da dtX3_whyNotRoute 3 rfl) (by decide) ?_
    exact V_iretF (pc := 8) X (th_da dtX3_whyNotRoute 4 rfl) hf
  · rw [if_neg c2] at hf
    refine V_aload_n (pc := 9) X (th_da dtX3_whyNotRoute 5 rfl) rfl ?_
    refine V_getR (pc := 10) (j := 1) (t := 2) X (th_da dtX3_whyNotRoute 6 rfl) wfl_X3_20 iX3 rfl rfl (Nat.le_of_ble_eq_true rfl) rfl ?_
    refine V_iload_n (pc := 13) X (th_da dtX3_whyNotRoute 7 rfl) rfl ?_
    obtain ⟨u3, h3, e3, hf⟩ := th_bd_some hf
    refine V_callVi (pc := 14) (q := 2) (As := [.int x1]) X (th_da dtX3_whyNotRoute 8 rfl) (mX0_has l 2 isP_2 _ _ _ _ e3) wcd_X0_has wml_X3_80 wim_X0_has wse_X0_has win_X0_has hd_X0_has ⟨Nat.le_of_ble_eq_true rfl, Nat.le_of_ble_eq_true rfl⟩ (Nat.le_of_ble_eq_true rfl) rfl rfl rfl ?_
    refine V_if_ne (pc := 17) (tgt := 22) X (th_da dtX3_whyNotRoute 9 rfl) (by decide) (fun c4 => ?_) (fun c4 => ?_)
    · rw [if_pos c4] at hf
      refine V_iconst (pc := 20) (v := 1) X (th_da dtX3_whyNotRoute 10 rfl) (by decide) ?_
      exact V_iretF (pc := 21) X (th_da dtX3_whyNotRoute 11 rfl) hf
    · rw [if_neg c4] at hf
      refine V_aload_n (pc := 22) X (th_da dtX3_whyNotRoute 12 rfl) rfl ?_
      refine V_getR (pc := 23) (j := 1) (t := 2) X (th_da dtX3_whyNotRoute 13 rfl) wfl_X3_20 iX3 rfl rfl (Nat.le_of_ble_eq_true rfl) rfl ?_
      refine V_getR (pc := 26) (j := 3) (t := 6) X (th_da dtX3_whyNotRoute 14 rfl) wfl_X3_110 iX0 rfl rfl (Nat.le_of_ble_eq_true rfl) rfl ?_
      refine V_iload_n (pc := 29) X (th_da dtX3_whyNotRoute 15 rfl) rfl ?_
      obtain ⟨v5, e5, g5, hf⟩ := th_rd_some hf
      refine V_iald (pc := 30) X (th_da dtX3_whyNotRoute 16 rfl) rfl g5 e5 ?_
      refine V_iload_n (pc := 31) X (th_da dtX3_whyNotRoute 17 rfl) rfl ?_
      refine V_icmp_ne (pc := 32) (tgt := 37) X (th_da dtX3_whyNotRoute 18 rfl) (by decide) (fun c6 => ?_) (fun c6 => ?_)
      · rw [if_pos c6] at hf
        refine V_iconst (pc := 35) (v := 2) X (th_da dtX3_whyNotRoute 19 rfl) (by decide) ?_
        exact V_iretF (pc := 36) X (th_da dtX3_whyNotRoute 20 rfl) hf
      · rw [if_neg c6] at hf
        refine V_iload_n (pc := 37) X (th_da dtX3_whyNotRoute 21 rfl) rfl ?_
        refine V_aload_n (pc := 38) X (th_da dtX3_whyNotRoute 22 rfl) rfl ?_
        refine V_getR (pc := 39) (j := 1) (t := 2) X (th_da dtX3_whyNotRoute 23 rfl) wfl_X3_20 iX3 rfl rfl (Nat.le_of_ble_eq_true rfl) rfl ?_
        refine V_getR (pc := 42) (j := 3) (t := 6) X (th_da dtX3_whyNotRoute 24 rfl) wfl_X3_110 iX0 rfl rfl (Nat.le_of_ble_eq_true rfl) rfl ?_
        refine V_iload_n (pc := 45) X (th_da dtX3_whyNotRoute 25 rfl) rfl ?_
        obtain ⟨v7, e7, g7, hf⟩ := th_rd_some hf
        refine V_iald (pc := 46) X (th_da dtX3_whyNotRoute 26 rfl) rfl g7 e7 ?_
        refine V_iconst (pc := 47) (v := (-1)) X (th_da dtX3_whyNotRoute 27 rfl) (by decide) ?_
        refine V_ixor (pc := 48) X (th_da dtX3_whyNotRoute 28 rfl) ?_
        refine V_iand (pc := 49) X (th_da dtX3_whyNotRoute 29 rfl) ?_
        refine V_istore_n (pc := 50) (ls2 := [.ref 0, .int x1, .int x2, .int (x2 &&& (v7 ^^^ (-1)))]) X (th_da dtX3_whyNotRoute 30 rfl) (Nat.le_of_ble_eq_true rfl) rfl rfl ?_
        refine V_aload_n (pc := 51) X (th_da dtX3_whyNotRoute 31 rfl) rfl ?_
        refine V_getR (pc := 52) (j := 1) (t := 2) X (th_da dtX3_whyNotRoute 32 rfl) wfl_X3_20 iX3 rfl rfl (Nat.le_of_ble_eq_true rfl) rfl ?_
        refine V_iload_n (pc := 55) X (th_da dtX3_whyNotRoute 33 rfl) rfl ?_
        refine V_aload_n (pc := 56) X (th_da dtX3_whyNotRoute 34 rfl) rfl ?_
        refine V_getR (pc := 57) (j := 1) (t := 2) X (th_da dtX3_whyNotRoute 35 rfl) wfl_X3_20 iX3 rfl rfl (Nat.le_of_ble_eq_true rfl) rfl ?_
        refine V_getR (pc := 60) (j := 5) (t := 8) X (th_da dtX3_whyNotRoute 36 rfl) wfl_X3_103 iX0 rfl rfl (Nat.le_of_ble_eq_true rfl) rfl ?_
        refine V_iload_n (pc := 63) X (th_da dtX3_whyNotRoute 37 rfl) rfl ?_
        obtain ⟨v8, e8, g8, hf⟩ := th_rd_some hf
        refine V_iald (pc := 64) X (th_da dtX3_whyNotRoute 38 rfl) rfl g8 e8 ?_
        obtain ⟨u9, h9, e9, hf⟩ := th_bd_some hf
        refine V_callVi (pc := 65) (q := 2) (As := [.int (x2 &&& (v7 ^^^ (-1))), .int v8]) X (th_da dtX3_whyNotRoute 39 rfl) (mX0_hasRoom l 2 isP_2 _ _ _ _ _ e9) wcd_X0_hasRoom wml_X3_113 wim_X0_hasRoom wse_X0_hasRoom win_X0_hasRoom hd_X0_hasRoom ⟨Nat.le_of_ble_eq_true rfl, Nat.le_of_ble_eq_true rfl⟩ (Nat.le_of_ble_eq_true rfl) rfl rfl rfl ?_
        refine V_if_eq (pc := 68) (tgt := 75) X (th_da dtX3_whyNotRoute 40 rfl) (by decide) (fun c10 => ?_) (fun c10 => ?_)
        · rw [if_pos c10] at hf
          refine V_iconst (pc := 75) (v := 4) X (th_da dtX3_whyNotRoute 43 rfl) (by decide) ?_
          exact V_iretF (pc := 76) X (th_da dtX3_whyNotRoute 44 rfl) hf
        · rw [if_neg c10] at hf
          refine V_iconst (pc := 71) (v := (-1)) X (th_da dtX3_whyNotRoute 41 rfl) (by decide) ?_
          refine V_goto (pc := 72) (tgt := 76) X (th_da dtX3_whyNotRoute 42 rfl) (by decide) ?_
          exact V_iretF (pc := 76) X (th_da dtX3_whyNotRoute 44 rfl) hf
end
def fX3_route (x1 : Int32) (x2 : Int32) (h : th_H) : Option (Int32 × th_H) :=
  th_bd (fX3_whyNotRoute x1 x2 h) fun u1 h1 =>
  if (u1 = (-1) : Prop) then
    th_rd h1 6 20 x1 fun v3 =>
    th_bd (fX1_reroute 1 x1 x2 h1) fun _u4 h4 =>
    th_bd (fJ6_bitCount_0f7a4 (x2 &&& (v3 ^^^ (-1))) h4) fun u5 h5 =>
    some (u5, h5)
  else
    th_bd (fX3_refuse u1 h1) fun u6 h6 =>
    some (u6, h6)
def tbX3_route : List (Nat × Instr × Nat) := [(0, .aload_n 0, 1), (1, .iload_n 1, 1), (2, .iload_n 2, 1), (3, .invokevirtual 126, 3), (6, .istore_n 3, 1), (7, .iload_n 3, 1), (8, .iconst (-1), 1), (9, .if_icmp .eq 9, 3), (12, .aload_n 0, 1), (13, .iload_n 3, 1), (14, .invokevirtual 56, 3), (17, .ireturn, 1), (18, .iload_n 2, 1), (19, .aload_n 0, 1), (20, .getfield 20, 3), (23, .getfield 110, 3), (26, .iload_n 1, 1), (27, .iaload, 1), (28, .iconst (-1), 1), (29, .ixor, 1), (30, .iand, 1), (31, .istore 4, 2), (33, .aload_n 0, 1), (34, .getfield 12, 3), (37, .iload_n 1, 1), (38, .iload_n 2, 1), (39, .invokevirtual 129, 3), (42, .iload 4, 2), (44, .invokestatic 91, 3), (47, .ireturn, 1)]
theorem dtX3_route : th_dec cX3_route tbX3_route = true := by decide +kernel
section
variable {p0 : Program} {l : Launch} {e : Env} {s : State} {m : MethodId} {args : Array Value} {below : List Frame} {meth : Method} {c : Code} {D : va_G} {cI cZ : ClassId} {ad : Nat → Nat} {rr : Int32} {hh : th_H}
set_option maxHeartbeats 4000000 in
set_option maxRecDepth 100000 in
theorem mX3_route (l : Launch) (x1 : Int32) (x2 : Int32) (h : th_H) (rr : Int32) (hh : th_H) (hf : fX3_route x1 x2 h = some (rr, hh)) : th_MI l LC yX3_route cX3_route 5 (some .int) 3 69 [.ref 0, .int x1, .int x2] h (some (.int rr)) hh := by
  refine th_MI_of (ls := [.ref 0, .int x1, .int x2, .null, .null]) RX3 rfl rfl rfl (Nat.le_of_ble_eq_true rfl) ?_
  intro p0 e s m args below meth c D cI cZ ad X
  unfold fX3_route at hf
  refine V_aload_n (pc := 0) X (th_da dtX3_route 0 rfl) rfl ?_
  refine V_iload_n (pc := 1) X (th_da dtX3_route 1 rfl) rfl ?_
  refine V_iload_n (pc := 2) X (th_da dtX3_route 2 rfl) rfl ?_
  obtain ⟨u1, h1, e1, hf⟩ := th_bd_some hf
  refine V_callVi (pc := 3) (q := 0) (As := [.int x1, .int x2]) X (th_da dtX3_route 3 rfl) (mX3_whyNotRoute l _ _ _ _ _ e1) wcd_X3_whyNotRoute wml_X3_126 wim_X3_whyNotRoute wse_X3_whyNotRoute win_X3_whyNotRoute hd_X3_whyNotRoute ⟨Nat.le_of_ble_eq_true rfl, Nat.le_of_ble_eq_true rfl⟩ (Nat.le_of_ble_eq_true rfl) rfl rfl rfl ?_
  refine V_istore_n (pc := 6) (ls2 := [.ref 0, .int x1, .int x2, .int u1, .null]) X (th_da dtX3_route 4 rfl) (Nat.le_of_ble_eq_true rfl) rfl rfl ?_
  refine V_iload_n (pc := 7) X (th_da dtX3_route 5 rfl) rfl ?_
  refine V_iconst (pc := 8) (v := (-1)) X (th_da dtX3_route 6 rfl) (by decide) ?_
  refine V_icmp_eq (pc := 9) (tgt := 18) X (th_da dtX3_route 7 rfl) (by decide) (fun c2 => ?_) (fun c2 => ?_)
  · rw [if_pos c2] at hf
    refine V_iload_n (pc := 18) X (th_da dtX3_route 12 rfl) rfl ?_
    refine V_aload_n (pc := 19) X (th_da dtX3_route 13 rfl) rfl ?_
    refine V_getR (pc := 20) (j := 1) (t := 2) X (th_da dtX3_route 14 rfl) wfl_X3_20 iX3 rfl rfl (Nat.le_of_ble_eq_true rfl) rfl ?_
    refine V_getR (pc := 23) (j := 3) (t := 6) X (th_da dtX3_route 15 rfl) wfl_X3_110 iX0 rfl rfl (Nat.le_of_ble_eq_true rfl) rfl ?_
    refine V_iload_n (pc := 26) X (th_da dtX3_route 16 rfl) rfl ?_
    obtain ⟨v3, e3, g3, hf⟩ := th_rd_some hf
    refine V_iald (pc := 27) X (th_da dtX3_route 17 rfl) rfl g3 e3 ?_
    refine V_iconst (pc := 28) (v := (-1)) X (th_da dtX3_route 18 rfl) (by decide) ?_
    refine V_ixor (pc := 29) X (th_da dtX3_route 19 rfl) ?_
    refine V_iand (pc := 30) X (th_da dtX3_route 20 rfl) ?_
    refine V_istore (pc := 31) (ls2 := [.ref 0, .int x1, .int x2, .int u1, .int (x2 &&& (v3 ^^^ (-1)))]) X (th_da dtX3_route 21 rfl) (Nat.le_of_ble_eq_true rfl) rfl rfl ?_
    refine V_aload_n (pc := 33) X (th_da dtX3_route 22 rfl) rfl ?_
    refine V_getR (pc := 34) (j := 0) (t := 1) X (th_da dtX3_route 23 rfl) wfl_X3_12 iX3 rfl rfl (Nat.le_of_ble_eq_true rfl) rfl ?_
    refine V_iload_n (pc := 37) X (th_da dtX3_route 24 rfl) rfl ?_
    refine V_iload_n (pc := 38) X (th_da dtX3_route 25 rfl) rfl ?_
    obtain ⟨u4, h4, e4, hf⟩ := th_bd_some hf
    refine V_callVv (pc := 39) (q := 1) (As := [.int x1, .int x2]) X (th_da dtX3_route 26 rfl) (mX1_reroute l 1 isQ_1 _ _ _ _ _ e4) wcd_X1_reroute wml_X3_129 wim_X1_reroute wse_X1_reroute win_X1_reroute hd_X1_reroute ⟨Nat.le_of_ble_eq_true rfl, Nat.le_of_ble_eq_true rfl⟩ (Nat.le_of_ble_eq_true rfl) rfl rfl rfl ?_
    refine V_iload (pc := 42) X (th_da dtX3_route 27 rfl) rfl ?_
    obtain ⟨u5, h5, e5, hf⟩ := th_bd_some hf
    refine V_callSi (pc := 44) (As := [.int (x2 &&& (v3 ^^^ (-1)))]) X (th_da dtX3_route 28 rfl) (mJ6_bitCount_0f7a4 l _ _ _ _ e5) wcd_J6_bitCount_0f7a4 wml_X3_91 wst_J6_bitCount_0f7a4 win_J6_bitCount_0f7a4 hd_J6_bitCount_0f7a4 ⟨Nat.le_of_ble_eq_true rfl, Nat.le_of_ble_eq_true rfl⟩ (Nat.le_of_ble_eq_true rfl) rfl ?_
    exact V_iretF (pc := 47) X (th_da dtX3_route 29 rfl) hf
  · rw [if_neg c2] at hf
    refine V_aload_n (pc := 12) X (th_da dtX3_route 8 rfl) rfl ?_
    refine V_iload_n (pc := 13) X (th_da dtX3_route 9 rfl) rfl ?_
    obtain ⟨u6, h6, e6, hf⟩ := th_bd_some hf
    refine V_callVi (pc := 14) (q := 0) (As := [.int u1]) X (th_da dtX3_route 10 rfl) (mX3_refuse l _ _ _ _ e6) wcd_X3_refuse wml_X3_56 wim_X3_refuse wse_X3_refuse win_X3_refuse hd_X3_refuse ⟨Nat.le_of_ble_eq_true rfl, Nat.le_of_ble_eq_true rfl⟩ (Nat.le_of_ble_eq_true rfl) rfl rfl rfl ?_
    exact V_iretF (pc := 17) X (th_da dtX3_route 11 rfl) hf
end
def fX3_lose (x1 : Int32) (x2 : Int32) (h : th_H) : Option (Int32 × th_H) :=
  th_bd (fX3_isLink x1 h) fun u1 h1 =>
  if (u1 = 0 : Prop) then
    th_bd (fX3_refuse 0 h1) fun u3 h3 =>
    some (u3, h3)
  else
    if (x2 < 0 : Prop) then
      th_bd (fX3_refuse 0 h1) fun u5 h5 =>
      some (u5, h5)
    else
      if (99 < x2 : Prop) then
        th_bd (fX3_refuse 0 h1) fun u7 h7 =>
        some (u7, h7)
      else
        th_rd h1 13 10 x1 fun v8 =>
        th_wr h1 13 10 x1 x2 fun h9 =>
        some (v8, h9)
def tbX3_lose : List (Nat × Instr × Nat) := [(0, .iload_n 1, 1), (1, .invokestatic 49, 3), (4, .ifCond .eq 13, 3), (7, .iload_n 2, 1), (8, .ifCond .lt 9, 3), (11, .iload_n 2, 1), (12, .bipush 99, 2), (14, .if_icmp .le 9, 3), (17, .aload_n 0, 1), (18, .iconst 0, 1), (19, .invokevirtual 56, 3), (22, .ireturn, 1), (23, .aload_n 0, 1), (24, .getfield 12, 3), (27, .getfield 132, 3), (30, .iload_n 1, 1), (31, .iaload, 1), (32, .istore_n 3, 1), (33, .aload_n 0, 1), (34, .getfield 12, 3), (37, .getfield 132, 3), (40, .iload_n 1, 1), (41, .iload_n 2, 1), (42, .iastore, 1), (43, .iload_n 3, 1), (44, .ireturn, 1)]
theorem dtX3_lose : th_dec cX3_lose tbX3_lose = true := by decide +kernel
section
variable {p0 : Program} {l : Launch} {e : Env} {s : State} {m : MethodId} {args : Array Value} {below : List Frame} {meth : Method} {c : Code} {D : va_G} {cI cZ : ClassId} {ad : Nat → Nat} {rr : Int32} {hh : th_H}
set_option maxHeartbeats 4000000 in
set_option maxRecDepth 100000 in
theorem mX3_lose (l : Launch) (x1 : Int32) (x2 : Int32) (h : th_H) (rr : Int32) (hh : th_H) (hf : fX3_lose x1 x2 h = some (rr, hh)) : th_MI l LC yX3_lose cX3_lose 4 (some .int) 1 21 [.ref 0, .int x1, .int x2] h (some (.int rr)) hh := by
  refine th_MI_of (ls := [.ref 0, .int x1, .int x2, .null]) RX3 rfl rfl rfl (Nat.le_of_ble_eq_true rfl) ?_
  intro p0 e s m args below meth c D cI cZ ad X
  unfold fX3_lose at hf
  refine V_iload_n (pc := 0) X (th_da dtX3_lose 0 rfl) rfl ?_
  obtain ⟨u1, h1, e1, hf⟩ := th_bd_some hf
  refine V_callSi (pc := 1) (As := [.int x1]) X (th_da dtX3_lose 1 rfl) (mX3_isLink l _ _ _ _ e1) wcd_X3_isLink wml_X3_49 wst_X3_isLink win_X3_isLink hd_X3_isLink ⟨Nat.le_of_ble_eq_true rfl, Nat.le_of_ble_eq_true rfl⟩ (Nat.le_of_ble_eq_true rfl) rfl ?_
  refine V_if_eq (pc := 4) (tgt := 17) X (th_da dtX3_lose 2 rfl) (by decide) (fun c2 => ?_) (fun c2 => ?_)
  · rw [if_pos c2] at hf
    refine V_aload_n (pc := 17) X (th_da dtX3_lose 8 rfl) rfl ?_
    refine V_iconst (pc := 18) (v := 0) X (th_da dtX3_lose 9 rfl) (by decide) ?_
    obtain ⟨u3, h3, e3, hf⟩ := th_bd_some hf
    refine V_callVi (pc := 19) (q := 0) (As := [.int 0]) X (th_da dtX3_lose 10 rfl) (mX3_refuse l _ _ _ _ e3) wcd_X3_refuse wml_X3_56 wim_X3_refuse wse_X3_refuse win_X3_refuse hd_X3_refuse ⟨Nat.le_of_ble_eq_true rfl, Nat.le_of_ble_eq_true rfl⟩ (Nat.le_of_ble_eq_true rfl) rfl rfl rfl ?_
    exact V_iretF (pc := 22) X (th_da dtX3_lose 11 rfl) hf
  · rw [if_neg c2] at hf
    refine V_iload_n (pc := 7) X (th_da dtX3_lose 3 rfl) rfl ?_
    refine V_if_lt (pc := 8) (tgt := 17) X (th_da dtX3_lose 4 rfl) (by decide) (fun c4 => ?_) (fun c4 => ?_)
    · rw [if_pos c4] at hf
      refine V_aload_n (pc := 17) X (th_da dtX3_lose 8 rfl) rfl ?_
      refine V_iconst (pc := 18) (v := 0) X (th_da dtX3_lose 9 rfl) (by decide) ?_
      obtain ⟨u5, h5, e5, hf⟩ := th_bd_some hf
      refine V_callVi (pc := 19) (q := 0) (As := [.int 0]) X (th_da dtX3_lose 10 rfl) (mX3_refuse l _ _ _ _ e5) wcd_X3_refuse wml_X3_56 wim_X3_refuse wse_X3_refuse win_X3_refuse hd_X3_refuse ⟨Nat.le_of_ble_eq_true rfl, Nat.le_of_ble_eq_true rfl⟩ (Nat.le_of_ble_eq_true rfl) rfl rfl rfl ?_
      exact V_iretF (pc := 22) X (th_da dtX3_lose 11 rfl) hf
    · rw [if_neg c4] at hf
      refine V_iload_n (pc := 11) X (th_da dtX3_lose 5 rfl) rfl ?_
      refine V_bipush (pc := 12) (v := 99) X (th_da dtX3_lose 6 rfl) (by decide) ?_
      refine V_icmp_le (pc := 14) (tgt := 23) X (th_da dtX3_lose 7 rfl) (by decide) (fun c6 => ?_) (fun c6 => ?_)
      · rw [if_pos c6] at hf
        refine V_aload_n (pc := 17) X (th_da dtX3_lose 8 rfl) rfl ?_
        refine V_iconst (pc := 18) (v := 0) X (th_da dtX3_lose 9 rfl) (by decide) ?_
        obtain ⟨u7, h7, e7, hf⟩ := th_bd_some hf
        refine V_callVi (pc := 19) (q := 0) (As := [.int 0]) X (th_da dtX3_lose 10 rfl) (mX3_refuse l _ _ _ _ e7) wcd_X3_refuse wml_X3_56 wim_X3_refuse wse_X3_refuse win_X3_refuse hd_X3_refuse ⟨Nat.le_of_ble_eq_true rfl, Nat.le_of_ble_eq_true rfl⟩ (Nat.le_of_ble_eq_true rfl) rfl rfl rfl ?_
        exact V_iretF (pc := 22) X (th_da dtX3_lose 11 rfl) hf
      · rw [if_neg c6] at hf
        refine V_aload_n (pc := 23) X (th_da dtX3_lose 12 rfl) rfl ?_
        refine V_getR (pc := 24) (j := 0) (t := 1) X (th_da dtX3_lose 13 rfl) wfl_X3_12 iX3 rfl rfl (Nat.le_of_ble_eq_true rfl) rfl ?_
        refine V_getR (pc := 27) (j := 4) (t := 13) X (th_da dtX3_lose 14 rfl) wfl_X3_132 iX1 rfl rfl (Nat.le_of_ble_eq_true rfl) rfl ?_
        refine V_iload_n (pc := 30) X (th_da dtX3_lose 15 rfl) rfl ?_
        obtain ⟨v8, e8, g8, hf⟩ := th_rd_some hf
        refine V_iald (pc := 31) X (th_da dtX3_lose 16 rfl) rfl g8 e8 ?_
        refine V_istore_n (pc := 32) (ls2 := [.ref 0, .int x1, .int x2, .int v8]) X (th_da dtX3_lose 17 rfl) (Nat.le_of_ble_eq_true rfl) rfl rfl ?_
        refine V_aload_n (pc := 33) X (th_da dtX3_lose 18 rfl) rfl ?_
        refine V_getR (pc := 34) (j := 0) (t := 1) X (th_da dtX3_lose 19 rfl) wfl_X3_12 iX3 rfl rfl (Nat.le_of_ble_eq_true rfl) rfl ?_
        refine V_getR (pc := 37) (j := 4) (t := 13) X (th_da dtX3_lose 20 rfl) wfl_X3_132 iX1 rfl rfl (Nat.le_of_ble_eq_true rfl) rfl ?_
        refine V_iload_n (pc := 40) X (th_da dtX3_lose 21 rfl) rfl ?_
        refine V_iload_n (pc := 41) X (th_da dtX3_lose 22 rfl) rfl ?_
        obtain ⟨h9, e9, g9, hf⟩ := th_wr_some hf
        refine V_iast (pc := 42) X (th_da dtX3_lose 23 rfl) rfl g9 e9 ?_
        refine V_iload_n (pc := 43) X (th_da dtX3_lose 24 rfl) rfl ?_
        exact V_iretF (pc := 44) X (th_da dtX3_lose 25 rfl) hf
end
def fX3_hop (x1 : Int32) (h : th_H) : Option (Int32 × th_H) :=
  th_bd (fX0_has 2 x1 h) fun u1 h1 =>
  if (u1 = 0 : Prop) then
    th_bd (fX3_refuse 1 h1) fun u3 h3 =>
    some (u3, h3)
  else
    th_bd (fX1_goOn 1 x1 h1) fun u4 h4 =>
    some (u4, h4)
def tbX3_hop : List (Nat × Instr × Nat) := [(0, .aload_n 0, 1), (1, .getfield 20, 3), (4, .iload_n 1, 1), (5, .invokevirtual 80, 3), (8, .ifCond .ne 9, 3), (11, .aload_n 0, 1), (12, .iconst 1, 1), (13, .invokevirtual 56, 3), (16, .ireturn, 1), (17, .aload_n 0, 1), (18, .getfield 12, 3), (21, .iload_n 1, 1), (22, .invokevirtual 135, 3), (25, .ireturn, 1)]
theorem dtX3_hop : th_dec cX3_hop tbX3_hop = true := by decide +kernel
section
variable {p0 : Program} {l : Launch} {e : Env} {s : State} {m : MethodId} {args : Array Value} {below : List Frame} {meth : Method} {c : Code} {D : va_G} {cI cZ : ClassId} {ad : Nat → Nat} {rr : Int32} {hh : th_H}
set_option maxHeartbeats 4000000 in
set_option maxRecDepth 100000 in
theorem mX3_hop (l : Launch) (x1 : Int32) (h : th_H) (rr : Int32) (hh : th_H) (hf : fX3_hop x1 h = some (rr, hh)) : th_MI l LC yX3_hop cX3_hop 2 (some .int) 6 139 [.ref 0, .int x1] h (some (.int rr)) hh := by
  refine th_MI_of (ls := [.ref 0, .int x1]) RX3 rfl rfl rfl (Nat.le_of_ble_eq_true rfl) ?_
  intro p0 e s m args below meth c D cI cZ ad X
  unfold fX3_hop at hf
  refine V_aload_n (pc := 0) X (th_da dtX3_hop 0 rfl) rfl ?_
  refine V_getR (pc := 1) (j := 1) (t := 2) X (th_da dtX3_hop 1 rfl) wfl_X3_20 iX3 rfl rfl (Nat.le_of_ble_eq_true rfl) rfl ?_
  refine V_iload_n (pc := 4) X (th_da dtX3_hop 2 rfl) rfl ?_
  obtain ⟨u1, h1, e1, hf⟩ := th_bd_some hf
  refine V_callVi (pc := 5) (q := 2) (As := [.int x1]) X (th_da dtX3_hop 3 rfl) (mX0_has l 2 isP_2 _ _ _ _ e1) wcd_X0_has wml_X3_80 wim_X0_has wse_X0_has win_X0_has hd_X0_has ⟨Nat.le_of_ble_eq_true rfl, Nat.le_of_ble_eq_true rfl⟩ (Nat.le_of_ble_eq_true rfl) rfl rfl rfl ?_
  refine V_if_ne (pc := 8) (tgt := 17) X (th_da dtX3_hop 4 rfl) (by decide) (fun c2 => ?_) (fun c2 => ?_)
  · rw [if_pos c2] at hf
    refine V_aload_n (pc := 11) X (th_da dtX3_hop 5 rfl) rfl ?_
    refine V_iconst (pc := 12) (v := 1) X (th_da dtX3_hop 6 rfl) (by decide) ?_
    obtain ⟨u3, h3, e3, hf⟩ := th_bd_some hf
    refine V_callVi (pc := 13) (q := 0) (As := [.int 1]) X (th_da dtX3_hop 7 rfl) (mX3_refuse l _ _ _ _ e3) wcd_X3_refuse wml_X3_56 wim_X3_refuse wse_X3_refuse win_X3_refuse hd_X3_refuse ⟨Nat.le_of_ble_eq_true rfl, Nat.le_of_ble_eq_true rfl⟩ (Nat.le_of_ble_eq_true rfl) rfl rfl rfl ?_
    exact V_iretF (pc := 16) X (th_da dtX3_hop 8 rfl) hf
  · rw [if_neg c2] at hf
    refine V_aload_n (pc := 17) X (th_da dtX3_hop 9 rfl) rfl ?_
    refine V_getR (pc := 18) (j := 0) (t := 1) X (th_da dtX3_hop 10 rfl) wfl_X3_12 iX3 rfl rfl (Nat.le_of_ble_eq_true rfl) rfl ?_
    refine V_iload_n (pc := 21) X (th_da dtX3_hop 11 rfl) rfl ?_
    obtain ⟨u4, h4, e4, hf⟩ := th_bd_some hf
    refine V_callVi (pc := 22) (q := 1) (As := [.int x1]) X (th_da dtX3_hop 12 rfl) (mX1_goOn l 1 isQ_1 _ _ _ _ e4) wcd_X1_goOn wml_X3_135 wim_X1_goOn wse_X1_goOn win_X1_goOn hd_X1_goOn ⟨Nat.le_of_ble_eq_true rfl, Nat.le_of_ble_eq_true rfl⟩ (Nat.le_of_ble_eq_true rfl) rfl rfl rfl ?_
    exact V_iretF (pc := 25) X (th_da dtX3_hop 13 rfl) hf
end
def fX3_letter (x1 : Int32) (h : th_H) : Option (Int32 × th_H) :=
  th_bd (fX0_has 2 x1 h) fun u1 h1 =>
  if (u1 = 0 : Prop) then
    th_bd (fX3_refuse 1 h1) fun u3 h3 =>
    some (u3, h3)
  else
    th_bd (fX1_send 1 x1 h1) fun _u4 h4 =>
    th_rd h4 12 20 x1 fun v5 =>
    some (v5, h4)
def tbX3_letter : List (Nat × Instr × Nat) := [(0, .aload_n 0, 1), (1, .getfield 20, 3), (4, .iload_n 1, 1), (5, .invokevirtual 80, 3), (8, .ifCond .ne 9, 3), (11, .aload_n 0, 1), (12, .iconst 1, 1), (13, .invokevirtual 56, 3), (16, .ireturn, 1), (17, .aload_n 0, 1), (18, .getfield 12, 3), (21, .iload_n 1, 1), (22, .invokevirtual 138, 3), (25, .aload_n 0, 1), (26, .getfield 12, 3), (29, .getfield 141, 3), (32, .iload_n 1, 1), (33, .iaload, 1), (34, .ireturn, 1)]
theorem dtX3_letter : th_dec cX3_letter tbX3_letter = true := by decide +kernel
section
variable {p0 : Program} {l : Launch} {e : Env} {s : State} {m : MethodId} {args : Array Value} {below : List Frame} {meth : Method} {c : Code} {D : va_G} {cI cZ : ClassId} {ad : Nat → Nat} {rr : Int32} {hh : th_H}
set_option maxHeartbeats 4000000 in
set_option maxRecDepth 100000 in
theorem mX3_letter (l : Launch) (x1 : Int32) (h : th_H) (rr : Int32) (hh : th_H) (hf : fX3_letter x1 h = some (rr, hh)) : th_MI l LC yX3_letter cX3_letter 2 (some .int) 5 119 [.ref 0, .int x1] h (some (.int rr)) hh := by
  refine th_MI_of (ls := [.ref 0, .int x1]) RX3 rfl rfl rfl (Nat.le_of_ble_eq_true rfl) ?_
  intro p0 e s m args below meth c D cI cZ ad X
  unfold fX3_letter at hf
  refine V_aload_n (pc := 0) X (th_da dtX3_letter 0 rfl) rfl ?_
  refine V_getR (pc := 1) (j := 1) (t := 2) X (th_da dtX3_letter 1 rfl) wfl_X3_20 iX3 rfl rfl (Nat.le_of_ble_eq_true rfl) rfl ?_
  refine V_iload_n (pc := 4) X (th_da dtX3_letter 2 rfl) rfl ?_
  obtain ⟨u1, h1, e1, hf⟩ := th_bd_some hf
  refine V_callVi (pc := 5) (q := 2) (As := [.int x1]) X (th_da dtX3_letter 3 rfl) (mX0_has l 2 isP_2 _ _ _ _ e1) wcd_X0_has wml_X3_80 wim_X0_has wse_X0_has win_X0_has hd_X0_has ⟨Nat.le_of_ble_eq_true rfl, Nat.le_of_ble_eq_true rfl⟩ (Nat.le_of_ble_eq_true rfl) rfl rfl rfl ?_
  refine V_if_ne (pc := 8) (tgt := 17) X (th_da dtX3_letter 4 rfl) (by decide) (fun c2 => ?_) (fun c2 => ?_)
  · rw [if_pos c2] at hf
    refine V_aload_n (pc := 11) X (th_da dtX3_letter 5 rfl) rfl ?_
    refine V_iconst (pc := 12) (v := 1) X (th_da dtX3_letter 6 rfl) (by decide) ?_
    obtain ⟨u3, h3, e3, hf⟩ := th_bd_some hf
    refine V_callVi (pc := 13) (q := 0) (As := [.int 1]) X (th_da dtX3_letter 7 rfl) (mX3_refuse l _ _ _ _ e3) wcd_X3_refuse wml_X3_56 wim_X3_refuse wse_X3_refuse win_X3_refuse hd_X3_refuse ⟨Nat.le_of_ble_eq_true rfl, Nat.le_of_ble_eq_true rfl⟩ (Nat.le_of_ble_eq_true rfl) rfl rfl rfl ?_
    exact V_iretF (pc := 16) X (th_da dtX3_letter 8 rfl) hf
  · rw [if_neg c2] at hf
    refine V_aload_n (pc := 17) X (th_da dtX3_letter 9 rfl) rfl ?_
    refine V_getR (pc := 18) (j := 0) (t := 1) X (th_da dtX3_letter 10 rfl) wfl_X3_12 iX3 rfl rfl (Nat.le_of_ble_eq_true rfl) rfl ?_
    refine V_iload_n (pc := 21) X (th_da dtX3_letter 11 rfl) rfl ?_
    obtain ⟨u4, h4, e4, hf⟩ := th_bd_some hf
    refine V_callVv (pc := 22) (q := 1) (As := [.int x1]) X (th_da dtX3_letter 12 rfl) (mX1_send l 1 isQ_1 _ _ _ _ e4) wcd_X1_send wml_X3_138 wim_X1_send wse_X1_send win_X1_send hd_X1_send ⟨Nat.le_of_ble_eq_true rfl, Nat.le_of_ble_eq_true rfl⟩ (Nat.le_of_ble_eq_true rfl) rfl rfl rfl ?_
    refine V_aload_n (pc := 25) X (th_da dtX3_letter 13 rfl) rfl ?_
    refine V_getR (pc := 26) (j := 0) (t := 1) X (th_da dtX3_letter 14 rfl) wfl_X3_12 iX3 rfl rfl (Nat.le_of_ble_eq_true rfl) rfl ?_
    refine V_getR (pc := 29) (j := 3) (t := 12) X (th_da dtX3_letter 15 rfl) wfl_X3_141 iX1 rfl rfl (Nat.le_of_ble_eq_true rfl) rfl ?_
    refine V_iload_n (pc := 32) X (th_da dtX3_letter 16 rfl) rfl ?_
    obtain ⟨v5, e5, g5, hf⟩ := th_rd_some hf
    refine V_iald (pc := 33) X (th_da dtX3_letter 17 rfl) rfl g5 e5 ?_
    exact V_iretF (pc := 34) X (th_da dtX3_letter 18 rfl) hf
end
def fX3_rounds_c21 : Nat → Int32 → Int32 → Int32 → th_H → Option (Int32 × th_H)
  | 0, _, _, _, _ => none
  | n + 1, y1, y2, y3, h =>
    if (y2 < y1 : Prop) then
      if (y3 = 0 : Prop) then
        th_bd (fX1_goRound 1 h) fun u3 h3 =>
        fX3_rounds_c21 n y1 (y2 + 1) u3 h3
      else
        some (y2, h)
    else
      some (y2, h)
def fX3_rounds (x1 : Int32) (h : th_H) : Option (Int32 × th_H) :=
  if (x1 < 1 : Prop) then
    th_bd (fX3_refuse 0 h) fun u2 h2 =>
    some (u2, h2)
  else
    if (30 < x1 : Prop) then
      th_bd (fX3_refuse 0 h) fun u4 h4 =>
      some (u4, h4)
    else
      fX3_rounds_c21 1000 x1 0 0 h
def tbX3_rounds : List (Nat × Instr × Nat) := [(0, .iload_n 1, 1), (1, .iconst 1, 1), (2, .if_icmp .lt 9, 3), (5, .iload_n 1, 1), (6, .bipush 30, 2), (8, .if_icmp .le 9, 3), (11, .aload_n 0, 1), (12, .iconst 0, 1), (13, .invokevirtual 56, 3), (16, .ireturn, 1), (17, .iconst 0, 1), (18, .istore_n 2, 1), (19, .iconst 0, 1), (20, .istore_n 3, 1), (21, .iload_n 2, 1), (22, .iload_n 1, 1), (23, .if_icmp .ge 21, 3), (26, .iload_n 3, 1), (27, .ifCond .ne 17, 3), (30, .aload_n 0, 1), (31, .getfield 12, 3), (34, .invokevirtual 144, 3), (37, .istore_n 3, 1), (38, .iinc 2 1, 3), (41, .goto (-20), 3), (44, .iload_n 2, 1), (45, .ireturn, 1)]
theorem dtX3_rounds : th_dec cX3_rounds tbX3_rounds = true := by decide +kernel
section
variable {p0 : Program} {l : Launch} {e : Env} {s : State} {m : MethodId} {args : Array Value} {below : List Frame} {meth : Method} {c : Code} {D : va_G} {cI cZ : ClassId} {ad : Nat → Nat} {rr : Int32} {hh : th_H}
set_option maxHeartbeats 4000000 in
set_option maxRecDepth 100000 in
theorem tX3_rounds_c21 (X : th_X p0 s m args meth c D cI cZ ad LC 4 RX3 cX3_rounds (some .int)) : ∀ (n : Nat) (y1 : Int32) (y2 : Int32) (y3 : Int32) (h : th_H), fX3_rounds_c21 n y1 y2 y3 h = some (rr, hh) → th_V p0 l e { frames := 6, cells := 0, slots := 0, locals := 140 } s m args below meth c D cI cZ ad LC 4 (some (.int rr)) hh 21 [.ref 0, .int y1, .int y2, .int y3] [] h := by
  intro n
  induction n with
  | zero => intro y1 y2 y3 h hf; cases hf
  | succ n ih =>
    intro y1 y2 y3 h hf
    rw [fX3_rounds_c21] at hf
    refine V_iload_n (pc := 21) X (th_da dtX3_rounds 14 rfl) rfl ?_
    refine V_iload_n (pc := 22) X (th_da dtX3_rounds 15 rfl) rfl ?_
    refine V_icmp_ge (pc := 23) (tgt := 44) X (th_da dtX3_rounds 16 rfl) (by decide) (fun c1 => ?_) (fun c1 => ?_)
    · rw [if_pos c1] at hf
      refine V_iload_n (pc := 26) X (th_da dtX3_rounds 17 rfl) rfl ?_
      refine V_if_ne (pc := 27) (tgt := 44) X (th_da dtX3_rounds 18 rfl) (by decide) (fun c2 => ?_) (fun c2 => ?_)
      · rw [if_pos c2] at hf
        refine V_aload_n (pc := 30) X (th_da dtX3_rounds 19 rfl) rfl ?_
        refine V_getR (pc := 31) (j := 0) (t := 1) X (th_da dtX3_rounds 20 rfl) wfl_X3_12 iX3 rfl rfl (Nat.le_of_ble_eq_true rfl) rfl ?_
        obtain ⟨u3, h3, e3, hf⟩ := th_bd_some hf
        refine V_callVi (pc := 34) (q := 1) (As := []) X (th_da dtX3_rounds 21 rfl) (mX1_goRound l 1 isQ_1 _ _ _ e3) wcd_X1_goRound wml_X3_144 wim_X1_goRound wse_X1_goRound win_X1_goRound hd_X1_goRound ⟨Nat.le_of_ble_eq_true rfl, Nat.le_of_ble_eq_true rfl⟩ (Nat.le_of_ble_eq_true rfl) rfl rfl rfl ?_
        refine V_istore_n (pc := 37) (ls2 := [.ref 0, .int y1, .int y2, .int u3]) X (th_da dtX3_rounds 22 rfl) (Nat.le_of_ble_eq_true rfl) rfl rfl ?_
        refine V_iinc (pc := 38) (v := y2 + 1) (ls2 := [.ref 0, .int y1, .int (y2 + 1), .int u3]) X (th_da dtX3_rounds 23 rfl) rfl rfl (Nat.le_of_ble_eq_true rfl) rfl rfl ?_
        refine V_goto (pc := 41) (tgt := 21) X (th_da dtX3_rounds 24 rfl) (by decide) ?_
        exact ih _ _ _ _ hf
      · rw [if_neg c2] at hf
        refine V_iload_n (pc := 44) X (th_da dtX3_rounds 25 rfl) rfl ?_
        exact V_iretF (pc := 45) X (th_da dtX3_rounds 26 rfl) hf
    · rw [if_neg c1] at hf
      refine V_iload_n (pc := 44) X (th_da dtX3_rounds 25 rfl) rfl ?_
      exact V_iretF (pc := 45) X (th_da dtX3_rounds 26 rfl) hf
set_option maxHeartbeats 4000000 in
set_option maxRecDepth 100000 in
theorem mX3_rounds (l : Launch) (x1 : Int32) (h : th_H) (rr : Int32) (hh : th_H) (hf : fX3_rounds x1 h = some (rr, hh)) : th_MI l LC yX3_rounds cX3_rounds 4 (some .int) 6 140 [.ref 0, .int x1] h (some (.int rr)) hh := by
  refine th_MI_of (ls := [.ref 0, .int x1, .null, .null]) RX3 rfl rfl rfl (Nat.le_of_ble_eq_true rfl) ?_
  intro p0 e s m args below meth c D cI cZ ad X
  unfold fX3_rounds at hf
  refine V_iload_n (pc := 0) X (th_da dtX3_rounds 0 rfl) rfl ?_
  refine V_iconst (pc := 1) (v := 1) X (th_da dtX3_rounds 1 rfl) (by decide) ?_
  refine V_icmp_lt (pc := 2) (tgt := 11) X (th_da dtX3_rounds 2 rfl) (by decide) (fun c1 => ?_) (fun c1 => ?_)
  · rw [if_pos c1] at hf
    refine V_aload_n (pc := 11) X (th_da dtX3_rounds 6 rfl) rfl ?_
    refine V_iconst (pc := 12) (v := 0) X (th_da dtX3_rounds 7 rfl) (by decide) ?_
    obtain ⟨u2, h2, e2, hf⟩ := th_bd_some hf
    refine V_callVi (pc := 13) (q := 0) (As := [.int 0]) X (th_da dtX3_rounds 8 rfl) (mX3_refuse l _ _ _ _ e2) wcd_X3_refuse wml_X3_56 wim_X3_refuse wse_X3_refuse win_X3_refuse hd_X3_refuse ⟨Nat.le_of_ble_eq_true rfl, Nat.le_of_ble_eq_true rfl⟩ (Nat.le_of_ble_eq_true rfl) rfl rfl rfl ?_
    exact V_iretF (pc := 16) X (th_da dtX3_rounds 9 rfl) hf
  · rw [if_neg c1] at hf
    refine V_iload_n (pc := 5) X (th_da dtX3_rounds 3 rfl) rfl ?_
    refine V_bipush (pc := 6) (v := 30) X (th_da dtX3_rounds 4 rfl) (by decide) ?_
    refine V_icmp_le (pc := 8) (tgt := 17) X (th_da dtX3_rounds 5 rfl) (by decide) (fun c3 => ?_) (fun c3 => ?_)
    · rw [if_pos c3] at hf
      refine V_aload_n (pc := 11) X (th_da dtX3_rounds 6 rfl) rfl ?_
      refine V_iconst (pc := 12) (v := 0) X (th_da dtX3_rounds 7 rfl) (by decide) ?_
      obtain ⟨u4, h4, e4, hf⟩ := th_bd_some hf
      refine V_callVi (pc := 13) (q := 0) (As := [.int 0]) X (th_da dtX3_rounds 8 rfl) (mX3_refuse l _ _ _ _ e4) wcd_X3_refuse wml_X3_56 wim_X3_refuse wse_X3_refuse win_X3_refuse hd_X3_refuse ⟨Nat.le_of_ble_eq_true rfl, Nat.le_of_ble_eq_true rfl⟩ (Nat.le_of_ble_eq_true rfl) rfl rfl rfl ?_
      exact V_iretF (pc := 16) X (th_da dtX3_rounds 9 rfl) hf
    · rw [if_neg c3] at hf
      refine V_iconst (pc := 17) (v := 0) X (th_da dtX3_rounds 10 rfl) (by decide) ?_
      refine V_istore_n (pc := 18) (ls2 := [.ref 0, .int x1, .int 0, .null]) X (th_da dtX3_rounds 11 rfl) (Nat.le_of_ble_eq_true rfl) rfl rfl ?_
      refine V_iconst (pc := 19) (v := 0) X (th_da dtX3_rounds 12 rfl) (by decide) ?_
      refine V_istore_n (pc := 20) (ls2 := [.ref 0, .int x1, .int 0, .int 0]) X (th_da dtX3_rounds 13 rfl) (Nat.le_of_ble_eq_true rfl) rfl rfl ?_
      exact tX3_rounds_c21 X _ _ _ _ _ hf
end
def fX3_forget (h : th_H) : Option (Int32 × th_H) :=
  th_bd (fX1_forgetAll 1 h) fun _u1 h1 =>
  th_bd (fJ6_bitCount_0f7a4 (h1.1 2 7) h1) fun u2 h2 =>
  some (u2, h2)
def tbX3_forget : List (Nat × Instr × Nat) := [(0, .aload_n 0, 1), (1, .getfield 12, 3), (4, .invokevirtual 148, 3), (7, .aload_n 0, 1), (8, .getfield 20, 3), (11, .getfield 87, 3), (14, .invokestatic 91, 3), (17, .ireturn, 1)]
theorem dtX3_forget : th_dec cX3_forget tbX3_forget = true := by decide +kernel
section
variable {p0 : Program} {l : Launch} {e : Env} {s : State} {m : MethodId} {args : Array Value} {below : List Frame} {meth : Method} {c : Code} {D : va_G} {cI cZ : ClassId} {ad : Nat → Nat} {rr : Int32} {hh : th_H}
set_option maxHeartbeats 4000000 in
set_option maxRecDepth 100000 in
theorem mX3_forget (l : Launch) (h : th_H) (rr : Int32) (hh : th_H) (hf : fX3_forget h = some (rr, hh)) : th_MI l LC yX3_forget cX3_forget 1 (some .int) 3 65 [.ref 0] h (some (.int rr)) hh := by
  refine th_MI_of (ls := [.ref 0]) RX3 rfl rfl rfl (Nat.le_of_ble_eq_true rfl) ?_
  intro p0 e s m args below meth c D cI cZ ad X
  unfold fX3_forget at hf
  refine V_aload_n (pc := 0) X (th_da dtX3_forget 0 rfl) rfl ?_
  refine V_getR (pc := 1) (j := 0) (t := 1) X (th_da dtX3_forget 1 rfl) wfl_X3_12 iX3 rfl rfl (Nat.le_of_ble_eq_true rfl) rfl ?_
  obtain ⟨u1, h1, e1, hf⟩ := th_bd_some hf
  refine V_callVv (pc := 4) (q := 1) (As := []) X (th_da dtX3_forget 2 rfl) (mX1_forgetAll l 1 isQ_1 _ _ _ e1) wcd_X1_forgetAll wml_X3_148 wim_X1_forgetAll wse_X1_forgetAll win_X1_forgetAll hd_X1_forgetAll ⟨Nat.le_of_ble_eq_true rfl, Nat.le_of_ble_eq_true rfl⟩ (Nat.le_of_ble_eq_true rfl) rfl rfl rfl ?_
  refine V_aload_n (pc := 7) X (th_da dtX3_forget 3 rfl) rfl ?_
  refine V_getR (pc := 8) (j := 1) (t := 2) X (th_da dtX3_forget 4 rfl) wfl_X3_20 iX3 rfl rfl (Nat.le_of_ble_eq_true rfl) rfl ?_
  refine V_getI (pc := 11) (j := 7) X (th_da dtX3_forget 5 rfl) wfl_X3_87 iX0 rfl rfl (Nat.le_of_ble_eq_true rfl) rfl ?_
  obtain ⟨u2, h2, e2, hf⟩ := th_bd_some hf
  refine V_callSi (pc := 14) (As := [.int (h1.1 2 7)]) X (th_da dtX3_forget 6 rfl) (mJ6_bitCount_0f7a4 l _ _ _ _ e2) wcd_J6_bitCount_0f7a4 wml_X3_91 wst_J6_bitCount_0f7a4 win_J6_bitCount_0f7a4 hd_J6_bitCount_0f7a4 ⟨Nat.le_of_ble_eq_true rfl, Nat.le_of_ble_eq_true rfl⟩ (Nat.le_of_ble_eq_true rfl) rfl ?_
  exact V_iretF (pc := 17) X (th_da dtX3_forget 7 rfl) hf
end
def fX3_keep (x1 : Int32) (h : th_H) : Option (Int32 × th_H) :=
  if (x1 = 0 : Prop) then
    th_bd (fX1_copy 53 1 h) fun _u2 h2 =>
    th_st (th_up h2 0 7 1) fun h3 =>
    some (1, h3)
  else
    if (x1 = 1 : Prop) then
      th_bd (fX1_copy 71 1 h) fun _u5 h5 =>
      th_st (th_up h5 0 8 1) fun h6 =>
      some (1, h6)
    else
      some (0, h)
def tbX3_keep : List (Nat × Instr × Nat) := [(0, .iload_n 1, 1), (1, .ifCond .ne 21, 3), (4, .aload_n 0, 1), (5, .getfield 36, 3), (8, .aload_n 0, 1), (9, .getfield 12, 3), (12, .invokevirtual 151, 3), (15, .aload_n 0, 1), (16, .iconst 1, 1), (17, .putfield 155, 3), (20, .iconst 1, 1), (21, .ireturn, 1), (22, .iload_n 1, 1), (23, .iconst 1, 1), (24, .if_icmp .ne 21, 3), (27, .aload_n 0, 1), (28, .getfield 39, 3), (31, .aload_n 0, 1), (32, .getfield 12, 3), (35, .invokevirtual 151, 3), (38, .aload_n 0, 1), (39, .iconst 1, 1), (40, .putfield 159, 3), (43, .iconst 1, 1), (44, .ireturn, 1), (45, .iconst 0, 1), (46, .ireturn, 1)]
theorem dtX3_keep : th_dec cX3_keep tbX3_keep = true := by decide +kernel
section
variable {p0 : Program} {l : Launch} {e : Env} {s : State} {m : MethodId} {args : Array Value} {below : List Frame} {meth : Method} {c : Code} {D : va_G} {cI cZ : ClassId} {ad : Nat → Nat} {rr : Int32} {hh : th_H}
set_option maxHeartbeats 4000000 in
set_option maxRecDepth 100000 in
theorem mX3_keep (l : Launch) (x1 : Int32) (h : th_H) (rr : Int32) (hh : th_H) (hf : fX3_keep x1 h = some (rr, hh)) : th_MI l LC yX3_keep cX3_keep 2 (some .boolean) 3 68 [.ref 0, .int x1] h (some (.int rr)) hh := by
  refine th_MI_of (ls := [.ref 0, .int x1]) RX3 rfl rfl rfl (Nat.le_of_ble_eq_true rfl) ?_
  intro p0 e s m args below meth c D cI cZ ad X
  unfold fX3_keep at hf
  refine V_iload_n (pc := 0) X (th_da dtX3_keep 0 rfl) rfl ?_
  refine V_if_ne (pc := 1) (tgt := 22) X (th_da dtX3_keep 1 rfl) (by decide) (fun c1 => ?_) (fun c1 => ?_)
  · rw [if_pos c1] at hf
    refine V_aload_n (pc := 4) X (th_da dtX3_keep 2 rfl) rfl ?_
    refine V_getR (pc := 5) (j := 5) (t := 53) X (th_da dtX3_keep 3 rfl) wfl_X3_36 iX3 rfl rfl (Nat.le_of_ble_eq_true rfl) rfl ?_
    refine V_aload_n (pc := 8) X (th_da dtX3_keep 4 rfl) rfl ?_
    refine V_getR (pc := 9) (j := 0) (t := 1) X (th_da dtX3_keep 5 rfl) wfl_X3_12 iX3 rfl rfl (Nat.le_of_ble_eq_true rfl) rfl ?_
    obtain ⟨u2, h2, e2, hf⟩ := th_bd_some hf
    refine V_callVv (pc := 12) (q := 53) (As := [.ref 1]) X (th_da dtX3_keep 6 rfl) (mX1_copy l 53 1 isQ_53 isQ_1 _ _ _ e2) wcd_X1_copy wml_X3_151 wim_X1_copy wse_X1_copy win_X1_copy hd_X1_copy ⟨Nat.le_of_ble_eq_true rfl, Nat.le_of_ble_eq_true rfl⟩ (Nat.le_of_ble_eq_true rfl) rfl rfl rfl ?_
    refine V_aload_n (pc := 15) X (th_da dtX3_keep 7 rfl) rfl ?_
    refine V_iconst (pc := 16) (v := 1) X (th_da dtX3_keep 8 rfl) (by decide) ?_
    obtain ⟨h3, e3, hf⟩ := th_st_some hf
    refine V_putI (pc := 17) (j := 7) (ty := .boolean) X (th_da dtX3_keep 9 rfl) wfl_X3_155 iX3 rfl rfl (Nat.le_of_ble_eq_true rfl) rfl tyX3 tyX3_ok nmX3 rfl (tyX3_ok 7 (Nat.le_of_ble_eq_true rfl)) rfl rfl e3 ?_
    refine V_iconst (pc := 20) (v := 1) X (th_da dtX3_keep 10 rfl) (by decide) ?_
    exact V_zretF (pc := 21) X (th_da dtX3_keep 11 rfl) (Or.inr rfl) hf
  · rw [if_neg c1] at hf
    refine V_iload_n (pc := 22) X (th_da dtX3_keep 12 rfl) rfl ?_
    refine V_iconst (pc := 23) (v := 1) X (th_da dtX3_keep 13 rfl) (by decide) ?_
    refine V_icmp_ne (pc := 24) (tgt := 45) X (th_da dtX3_keep 14 rfl) (by decide) (fun c4 => ?_) (fun c4 => ?_)
    · rw [if_pos c4] at hf
      refine V_aload_n (pc := 27) X (th_da dtX3_keep 15 rfl) rfl ?_
      refine V_getR (pc := 28) (j := 6) (t := 71) X (th_da dtX3_keep 16 rfl) wfl_X3_39 iX3 rfl rfl (Nat.le_of_ble_eq_true rfl) rfl ?_
      refine V_aload_n (pc := 31) X (th_da dtX3_keep 17 rfl) rfl ?_
      refine V_getR (pc := 32) (j := 0) (t := 1) X (th_da dtX3_keep 18 rfl) wfl_X3_12 iX3 rfl rfl (Nat.le_of_ble_eq_true rfl) rfl ?_
      obtain ⟨u5, h5, e5, hf⟩ := th_bd_some hf
      refine V_callVv (pc := 35) (q := 71) (As := [.ref 1]) X (th_da dtX3_keep 19 rfl) (mX1_copy l 71 1 isQ_71 isQ_1 _ _ _ e5) wcd_X1_copy wml_X3_151 wim_X1_copy wse_X1_copy win_X1_copy hd_X1_copy ⟨Nat.le_of_ble_eq_true rfl, Nat.le_of_ble_eq_true rfl⟩ (Nat.le_of_ble_eq_true rfl) rfl rfl rfl ?_
      refine V_aload_n (pc := 38) X (th_da dtX3_keep 20 rfl) rfl ?_
      refine V_iconst (pc := 39) (v := 1) X (th_da dtX3_keep 21 rfl) (by decide) ?_
      obtain ⟨h6, e6, hf⟩ := th_st_some hf
      refine V_putI (pc := 40) (j := 8) (ty := .boolean) X (th_da dtX3_keep 22 rfl) wfl_X3_159 iX3 rfl rfl (Nat.le_of_ble_eq_true rfl) rfl tyX3 tyX3_ok nmX3 rfl (tyX3_ok 8 (Nat.le_of_ble_eq_true rfl)) rfl rfl e6 ?_
      refine V_iconst (pc := 43) (v := 1) X (th_da dtX3_keep 23 rfl) (by decide) ?_
      exact V_zretF (pc := 44) X (th_da dtX3_keep 24 rfl) (Or.inr rfl) hf
    · rw [if_neg c4] at hf
      refine V_iconst (pc := 45) (v := 0) X (th_da dtX3_keep 25 rfl) (by decide) ?_
      exact V_zretF (pc := 46) X (th_da dtX3_keep 26 rfl) (Or.inl rfl) hf
end
def fX3_again_c24 (y1 : Int32) (h : th_H) : Option (Int32 × th_H) :=
  if (y1 = 1 : Prop) then
    if ((h.1 0 8) = 0 : Prop) then
      some (0, h)
    else
      th_bd (fX1_copy 1 71 h) fun _u3 h3 =>
      some (1, h3)
  else
    some (0, h)
def fX3_again (x1 : Int32) (h : th_H) : Option (Int32 × th_H) :=
  if (x1 = 0 : Prop) then
    if ((h.1 0 7) = 0 : Prop) then
      fX3_again_c24 x1 h
    else
      th_bd (fX1_copy 1 53 h) fun _u3 h3 =>
      some (1, h3)
  else
    fX3_again_c24 x1 h
def tbX3_again : List (Nat × Instr × Nat) := [(0, .iload_n 1, 1), (1, .ifCond .ne 23, 3), (4, .aload_n 0, 1), (5, .getfield 155, 3), (8, .ifCond .eq 16, 3), (11, .aload_n 0, 1), (12, .getfield 12, 3), (15, .aload_n 0, 1), (16, .getfield 36, 3), (19, .invokevirtual 151, 3), (22, .iconst 1, 1), (23, .ireturn, 1), (24, .iload_n 1, 1), (25, .iconst 1, 1), (26, .if_icmp .ne 23, 3), (29, .aload_n 0, 1), (30, .getfield 159, 3), (33, .ifCond .eq 16, 3), (36, .aload_n 0, 1), (37, .getfield 12, 3), (40, .aload_n 0, 1), (41, .getfield 39, 3), (44, .invokevirtual 151, 3), (47, .iconst 1, 1), (48, .ireturn, 1), (49, .iconst 0, 1), (50, .ireturn, 1)]
theorem dtX3_again : th_dec cX3_again tbX3_again = true := by decide +kernel
section
variable {p0 : Program} {l : Launch} {e : Env} {s : State} {m : MethodId} {args : Array Value} {below : List Frame} {meth : Method} {c : Code} {D : va_G} {cI cZ : ClassId} {ad : Nat → Nat} {rr : Int32} {hh : th_H}
set_option maxHeartbeats 4000000 in
set_option maxRecDepth 100000 in
theorem tX3_again_c24 (X : th_X p0 s m args meth c D cI cZ ad LC 2 RX3 cX3_again (some .boolean)) (y1 : Int32) (h : th_H) (hf : fX3_again_c24 y1 h = some (rr, hh)) : th_V p0 l e { frames := 3, cells := 0, slots := 0, locals := 68 } s m args below meth c D cI cZ ad LC 2 (some (.int rr)) hh 24 [.ref 0, .int y1] [] h := by
  unfold fX3_again_c24 at hf
  refine V_iload_n (pc := 24) X (th_da dtX3_again 12 rfl) rfl ?_
  refine V_iconst (pc := 25) (v := 1) X (th_da dtX3_again 13 rfl) (by decide) ?_
  refine V_icmp_ne (pc := 26) (tgt := 49) X (th_da dtX3_again 14 rfl) (by decide) (fun c1 => ?_) (fun c1 => ?_)
  · rw [if_pos c1] at hf
    refine V_aload_n (pc := 29) X (th_da dtX3_again 15 rfl) rfl ?_
    refine V_getI (pc := 30) (j := 8) X (th_da dtX3_again 16 rfl) wfl_X3_159 iX3 rfl rfl (Nat.le_of_ble_eq_true rfl) rfl ?_
    refine V_if_eq (pc := 33) (tgt := 49) X (th_da dtX3_again 17 rfl) (by decide) (fun c2 => ?_) (fun c2 => ?_)
    · rw [if_pos c2] at hf
      refine V_iconst (pc := 49) (v := 0) X (th_da dtX3_again 25 rfl) (by decide) ?_
      exact V_zretF (pc := 50) X (th_da dtX3_again 26 rfl) (Or.inl rfl) hf
    · rw [if_neg c2] at hf
      refine V_aload_n (pc := 36) X (th_da dtX3_again 18 rfl) rfl ?_
      refine V_getR (pc := 37) (j := 0) (t := 1) X (th_da dtX3_again 19 rfl) wfl_X3_12 iX3 rfl rfl (Nat.le_of_ble_eq_true rfl) rfl ?_
      refine V_aload_n (pc := 40) X (th_da dtX3_again 20 rfl) rfl ?_
      refine V_getR (pc := 41) (j := 6) (t := 71) X (th_da dtX3_again 21 rfl) wfl_X3_39 iX3 rfl rfl (Nat.le_of_ble_eq_true rfl) rfl ?_
      obtain ⟨u3, h3, e3, hf⟩ := th_bd_some hf
      refine V_callVv (pc := 44) (q := 1) (As := [.ref 71]) X (th_da dtX3_again 22 rfl) (mX1_copy l 1 71 isQ_1 isQ_71 _ _ _ e3) wcd_X1_copy wml_X3_151 wim_X1_copy wse_X1_copy win_X1_copy hd_X1_copy ⟨Nat.le_of_ble_eq_true rfl, Nat.le_of_ble_eq_true rfl⟩ (Nat.le_of_ble_eq_true rfl) rfl rfl rfl ?_
      refine V_iconst (pc := 47) (v := 1) X (th_da dtX3_again 23 rfl) (by decide) ?_
      exact V_zretF (pc := 48) X (th_da dtX3_again 24 rfl) (Or.inr rfl) hf
  · rw [if_neg c1] at hf
    refine V_iconst (pc := 49) (v := 0) X (th_da dtX3_again 25 rfl) (by decide) ?_
    exact V_zretF (pc := 50) X (th_da dtX3_again 26 rfl) (Or.inl rfl) hf
set_option maxHeartbeats 4000000 in
set_option maxRecDepth 100000 in
theorem mX3_again (l : Launch) (x1 : Int32) (h : th_H) (rr : Int32) (hh : th_H) (hf : fX3_again x1 h = some (rr, hh)) : th_MI l LC yX3_again cX3_again 2 (some .boolean) 3 68 [.ref 0, .int x1] h (some (.int rr)) hh := by
  refine th_MI_of (ls := [.ref 0, .int x1]) RX3 rfl rfl rfl (Nat.le_of_ble_eq_true rfl) ?_
  intro p0 e s m args below meth c D cI cZ ad X
  unfold fX3_again at hf
  refine V_iload_n (pc := 0) X (th_da dtX3_again 0 rfl) rfl ?_
  refine V_if_ne (pc := 1) (tgt := 24) X (th_da dtX3_again 1 rfl) (by decide) (fun c1 => ?_) (fun c1 => ?_)
  · rw [if_pos c1] at hf
    refine V_aload_n (pc := 4) X (th_da dtX3_again 2 rfl) rfl ?_
    refine V_getI (pc := 5) (j := 7) X (th_da dtX3_again 3 rfl) wfl_X3_155 iX3 rfl rfl (Nat.le_of_ble_eq_true rfl) rfl ?_
    refine V_if_eq (pc := 8) (tgt := 24) X (th_da dtX3_again 4 rfl) (by decide) (fun c2 => ?_) (fun c2 => ?_)
    · rw [if_pos c2] at hf
      exact tX3_again_c24 X _ _ hf
    · rw [if_neg c2] at hf
      refine V_aload_n (pc := 11) X (th_da dtX3_again 5 rfl) rfl ?_
      refine V_getR (pc := 12) (j := 0) (t := 1) X (th_da dtX3_again 6 rfl) wfl_X3_12 iX3 rfl rfl (Nat.le_of_ble_eq_true rfl) rfl ?_
      refine V_aload_n (pc := 15) X (th_da dtX3_again 7 rfl) rfl ?_
      refine V_getR (pc := 16) (j := 5) (t := 53) X (th_da dtX3_again 8 rfl) wfl_X3_36 iX3 rfl rfl (Nat.le_of_ble_eq_true rfl) rfl ?_
      obtain ⟨u3, h3, e3, hf⟩ := th_bd_some hf
      refine V_callVv (pc := 19) (q := 1) (As := [.ref 53]) X (th_da dtX3_again 9 rfl) (mX1_copy l 1 53 isQ_1 isQ_53 _ _ _ e3) wcd_X1_copy wml_X3_151 wim_X1_copy wse_X1_copy win_X1_copy hd_X1_copy ⟨Nat.le_of_ble_eq_true rfl, Nat.le_of_ble_eq_true rfl⟩ (Nat.le_of_ble_eq_true rfl) rfl rfl rfl ?_
      refine V_iconst (pc := 22) (v := 1) X (th_da dtX3_again 10 rfl) (by decide) ?_
      exact V_zretF (pc := 23) X (th_da dtX3_again 11 rfl) (Or.inr rfl) hf
  · rw [if_neg c1] at hf
    exact tX3_again_c24 X _ _ hf
end
def fX3_links (x1 : Int32) (x2 : Int32) (h : th_H) : Option (Int32 × th_H) :=
  th_bd (fX3_isLink x1 h) fun u1 h1 =>
  if (u1 = 0 : Prop) then
    some ((-1), h1)
  else
    if x2 = 0 then
      th_rd h1 3 10 x1 fun v4 =>
      some (v4, h1)
    else
    if x2 = 1 then
      th_bd (fX0_boundOf 2 x1 h1) fun u6 h6 =>
      some (u6, h6)
    else
    if x2 = 2 then
      th_rd h1 4 10 x1 fun v8 =>
      some (v8, h1)
    else
    some ((-1), h1)
def tbX3_links : List (Nat × Instr × Nat) := [(0, .iload_n 1, 1), (1, .invokestatic 49, 3), (4, .ifCond .ne 5, 3), (7, .iconst (-1), 1), (8, .ireturn, 1), (9, .iload_n 2, 1), (10, .tableswitch 55 0 2 #[26, 36, 45], 26), (36, .aload_n 0, 1), (37, .getfield 20, 3), (40, .getfield 60, 3), (43, .iload_n 1, 1), (44, .iaload, 1), (45, .ireturn, 1), (46, .aload_n 0, 1), (47, .getfield 20, 3), (50, .iload_n 1, 1), (51, .invokevirtual 65, 3), (54, .ireturn, 1), (55, .aload_n 0, 1), (56, .getfield 20, 3), (59, .getfield 162, 3), (62, .iload_n 1, 1), (63, .iaload, 1), (64, .ireturn, 1), (65, .iconst (-1), 1), (66, .ireturn, 1)]
theorem dtX3_links : th_dec cX3_links tbX3_links = true := by decide +kernel
section
variable {p0 : Program} {l : Launch} {e : Env} {s : State} {m : MethodId} {args : Array Value} {below : List Frame} {meth : Method} {c : Code} {D : va_G} {cI cZ : ClassId} {ad : Nat → Nat} {rr : Int32} {hh : th_H}
set_option maxHeartbeats 4000000 in
set_option maxRecDepth 100000 in
theorem mX3_links (l : Launch) (x1 : Int32) (x2 : Int32) (h : th_H) (rr : Int32) (hh : th_H) (hf : fX3_links x1 x2 h = some (rr, hh)) : th_MI l LC yX3_links cX3_links 3 (some .int) 1 23 [.ref 0, .int x1, .int x2] h (some (.int rr)) hh := by
  refine th_MI_of (ls := [.ref 0, .int x1, .int x2]) RX3 rfl rfl rfl (Nat.le_of_ble_eq_true rfl) ?_
  intro p0 e s m args below meth c D cI cZ ad X
  unfold fX3_links at hf
  refine V_iload_n (pc := 0) X (th_da dtX3_links 0 rfl) rfl ?_
  obtain ⟨u1, h1, e1, hf⟩ := th_bd_some hf
  refine V_callSi (pc := 1) (As := [.int x1]) X (th_da dtX3_links 1 rfl) (mX3_isLink l _ _ _ _ e1) wcd_X3_isLink wml_X3_49 wst_X3_isLink win_X3_isLink hd_X3_isLink ⟨Nat.le_of_ble_eq_true rfl, Nat.le_of_ble_eq_true rfl⟩ (Nat.le_of_ble_eq_true rfl) rfl ?_
  refine V_if_ne (pc := 4) (tgt := 9) X (th_da dtX3_links 2 rfl) (by decide) (fun c2 => ?_) (fun c2 => ?_)
  · rw [if_pos c2] at hf
    refine V_iconst (pc := 7) (v := (-1)) X (th_da dtX3_links 3 rfl) (by decide) ?_
    exact V_iretF (pc := 8) X (th_da dtX3_links 4 rfl) hf
  · rw [if_neg c2] at hf
    refine V_iload_n (pc := 9) X (th_da dtX3_links 5 rfl) rfl ?_
    by_cases c3 : x2 = 0
    · rw [if_pos c3] at hf
      refine V_tabIn (pc := 10) (tgt := 36) X (th_da dtX3_links 6 rfl) c3 (by decide) (by decide) rfl (by decide) ?_
      refine V_aload_n (pc := 36) X (th_da dtX3_links 7 rfl) rfl ?_
      refine V_getR (pc := 37) (j := 1) (t := 2) X (th_da dtX3_links 8 rfl) wfl_X3_20 iX3 rfl rfl (Nat.le_of_ble_eq_true rfl) rfl ?_
      refine V_getR (pc := 40) (j := 0) (t := 3) X (th_da dtX3_links 9 rfl) wfl_X3_60 iX0 rfl rfl (Nat.le_of_ble_eq_true rfl) rfl ?_
      refine V_iload_n (pc := 43) X (th_da dtX3_links 10 rfl) rfl ?_
      obtain ⟨v4, e4, g4, hf⟩ := th_rd_some hf
      refine V_iald (pc := 44) X (th_da dtX3_links 11 rfl) rfl g4 e4 ?_
      exact V_iretF (pc := 45) X (th_da dtX3_links 12 rfl) hf
    · rw [if_neg c3] at hf
      by_cases c5 : x2 = 1
      · rw [if_pos c5] at hf
        refine V_tabIn (pc := 10) (tgt := 46) X (th_da dtX3_links 6 rfl) c5 (by decide) (by decide) rfl (by decide) ?_
        refine V_aload_n (pc := 46) X (th_da dtX3_links 13 rfl) rfl ?_
        refine V_getR (pc := 47) (j := 1) (t := 2) X (th_da dtX3_links 14 rfl) wfl_X3_20 iX3 rfl rfl (Nat.le_of_ble_eq_true rfl) rfl ?_
        refine V_iload_n (pc := 50) X (th_da dtX3_links 15 rfl) rfl ?_
        obtain ⟨u6, h6, e6, hf⟩ := th_bd_some hf
        refine V_callVi (pc := 51) (q := 2) (As := [.int x1]) X (th_da dtX3_links 16 rfl) (mX0_boundOf l 2 isP_2 _ _ _ _ e6) wcd_X0_boundOf wml_X3_65 wim_X0_boundOf wse_X0_boundOf win_X0_boundOf hd_X0_boundOf ⟨Nat.le_of_ble_eq_true rfl, Nat.le_of_ble_eq_true rfl⟩ (Nat.le_of_ble_eq_true rfl) rfl rfl rfl ?_
        exact V_iretF (pc := 54) X (th_da dtX3_links 17 rfl) hf
      · rw [if_neg c5] at hf
        by_cases c7 : x2 = 2
        · rw [if_pos c7] at hf
          refine V_tabIn (pc := 10) (tgt := 55) X (th_da dtX3_links 6 rfl) c7 (by decide) (by decide) rfl (by decide) ?_
          refine V_aload_n (pc := 55) X (th_da dtX3_links 18 rfl) rfl ?_
          refine V_getR (pc := 56) (j := 1) (t := 2) X (th_da dtX3_links 19 rfl) wfl_X3_20 iX3 rfl rfl (Nat.le_of_ble_eq_true rfl) rfl ?_
          refine V_getR (pc := 59) (j := 1) (t := 4) X (th_da dtX3_links 20 rfl) wfl_X3_162 iX0 rfl rfl (Nat.le_of_ble_eq_true rfl) rfl ?_
          refine V_iload_n (pc := 62) X (th_da dtX3_links 21 rfl) rfl ?_
          obtain ⟨v8, e8, g8, hf⟩ := th_rd_some hf
          refine V_iald (pc := 63) X (th_da dtX3_links 22 rfl) rfl g8 e8 ?_
          exact V_iretF (pc := 64) X (th_da dtX3_links 23 rfl) hf
        · rw [if_neg c7] at hf
          have n3 := lv_neT c3 (show (0 : Int32).toInt = 0 from rfl)
          have n5 := lv_neT c5 (show (1 : Int32).toInt = 1 from rfl)
          have n7 := lv_neT c7 (show (2 : Int32).toInt = 2 from rfl)
          refine V_tabOut (pc := 10) (tgt := 65) X (th_da dtX3_links 6 rfl) (by omega) (by decide) ?_
          refine V_iconst (pc := 65) (v := (-1)) X (th_da dtX3_links 24 rfl) (by decide) ?_
          exact V_iretF (pc := 66) X (th_da dtX3_links 25 rfl) hf
end
def fX3_flow (x1 : Int32) (x2 : Int32) (h : th_H) : Option (Int32 × th_H) :=
  th_bd (fX0_has 2 x1 h) fun u1 h1 =>
  if (u1 = 0 : Prop) then
    none
  else
    if x2 = 0 then
      th_rd h1 5 20 x1 fun v4 =>
      some (v4, h1)
    else
    if x2 = 1 then
      th_rd h1 6 20 x1 fun v6 =>
      some (v6, h1)
    else
    if x2 = 2 then
      th_rd h1 7 20 x1 fun v8 =>
      some (v8, h1)
    else
    if x2 = 3 then
      th_rd h1 8 20 x1 fun v10 =>
      some (v10, h1)
    else
    if x2 = 4 then
      th_rd h1 9 20 x1 fun v12 =>
      some (v12, h1)
    else
    if x2 = 5 then
      th_bd (fX0_ownOf 2 x1 h1) fun u14 h14 =>
      some (u14, h14)
    else
    if x2 = 6 then
      th_bd (fX1_isHeld 1 x1 h1) fun u16 h16 =>
      if (u16 = 0 : Prop) then
        some (0, h16)
      else
        some (1, h16)
    else
    if x2 = 7 then
      th_rd h1 12 20 x1 fun v19 =>
      some (v19, h1)
    else
    if x2 = 8 then
      th_rd h1 12 20 x1 fun v21 =>
      th_bd (fX0_rateBy 2 x1 v21 h1) fun u22 h22 =>
      some (u22, h22)
    else
    some ((-1), h1)
def tbX3_flow : List (Nat × Instr × Nat) := [(0, .aload_n 0, 1), (1, .getfield 20, 3), (4, .iload_n 1, 1), (5, .invokevirtual 80, 3), (8, .ifCond .ne 13, 3), (11, .new 165, 3), (14, .dup, 1), (15, .ldc 167, 2), (17, .invokespecial 169, 3), (20, .athrow, 1), (21, .iload_n 2, 1), (22, .tableswitch 154 0 8 #[50, 60, 70, 80, 90, 100, 109, 126, 136], 50), (72, .aload_n 0, 1), (73, .getfield 20, 3), (76, .getfield 172, 3), (79, .iload_n 1, 1), (80, .iaload, 1), (81, .ireturn, 1), (82, .aload_n 0, 1), (83, .getfield 20, 3), (86, .getfield 110, 3), (89, .iload_n 1, 1), (90, .iaload, 1), (91, .ireturn, 1), (92, .aload_n 0, 1), (93, .getfield 20, 3), (96, .getfield 175, 3), (99, .iload_n 1, 1), (100, .iaload, 1), (101, .ireturn, 1), (102, .aload_n 0, 1), (103, .getfield 20, 3), (106, .getfield 103, 3), (109, .iload_n 1, 1), (110, .iaload, 1), (111, .ireturn, 1), (112, .aload_n 0, 1), (113, .getfield 20, 3), (116, .getfield 100, 3), (119, .iload_n 1, 1), (120, .iaload, 1), (121, .ireturn, 1), (122, .aload_n 0, 1), (123, .getfield 20, 3), (126, .iload_n 1, 1), (127, .invokevirtual 178, 3), (130, .ireturn, 1), (131, .aload_n 0, 1), (132, .getfield 12, 3), (135, .iload_n 1, 1), (136, .invokevirtual 120, 3), (139, .ifCond .eq 7, 3), (142, .iconst 1, 1), (143, .goto 4, 3), (146, .iconst 0, 1), (147, .ireturn, 1), (148, .aload_n 0, 1), (149, .getfield 12, 3), (152, .getfield 141, 3), (155, .iload_n 1, 1), (156, .iaload, 1), (157, .ireturn, 1), (158, .aload_n 0, 1), (159, .getfield 20, 3), (162, .iload_n 1, 1), (163, .aload_n 0, 1), (164, .getfield 12, 3), (167, .getfield 141, 3), (170, .iload_n 1, 1), (171, .iaload, 1), (172, .invokevirtual 181, 3), (175, .ireturn, 1), (176, .iconst (-1), 1), (177, .ireturn, 1)]
theorem dtX3_flow : th_dec cX3_flow tbX3_flow = true := by decide +kernel
section
variable {p0 : Program} {l : Launch} {e : Env} {s : State} {m : MethodId} {args : Array Value} {below : List Frame} {meth : Method} {c : Code} {D : va_G} {cI cZ : ClassId} {ad : Nat → Nat} {rr : Int32} {hh : th_H}
set_option maxHeartbeats 4000000 in
set_option maxRecDepth 100000 in
theorem mX3_flow (l : Launch) (x1 : Int32) (x2 : Int32) (h : th_H) (rr : Int32) (hh : th_H) (hf : fX3_flow x1 x2 h = some (rr, hh)) : th_MI l LC yX3_flow cX3_flow 3 (some .int) 2 43 [.ref 0, .int x1, .int x2] h (some (.int rr)) hh := by
  refine th_MI_of (ls := [.ref 0, .int x1, .int x2]) RX3 rfl rfl rfl (Nat.le_of_ble_eq_true rfl) ?_
  intro p0 e s m args below meth c D cI cZ ad X
  unfold fX3_flow at hf
  refine V_aload_n (pc := 0) X (th_da dtX3_flow 0 rfl) rfl ?_
  refine V_getR (pc := 1) (j := 1) (t := 2) X (th_da dtX3_flow 1 rfl) wfl_X3_20 iX3 rfl rfl (Nat.le_of_ble_eq_true rfl) rfl ?_
  refine V_iload_n (pc := 4) X (th_da dtX3_flow 2 rfl) rfl ?_
  obtain ⟨u1, h1, e1, hf⟩ := th_bd_some hf
  refine V_callVi (pc := 5) (q := 2) (As := [.int x1]) X (th_da dtX3_flow 3 rfl) (mX0_has l 2 isP_2 _ _ _ _ e1) wcd_X0_has wml_X3_80 wim_X0_has wse_X0_has win_X0_has hd_X0_has ⟨Nat.le_of_ble_eq_true rfl, Nat.le_of_ble_eq_true rfl⟩ (Nat.le_of_ble_eq_true rfl) rfl rfl rfl ?_
  refine V_if_ne (pc := 8) (tgt := 21) X (th_da dtX3_flow 4 rfl) (by decide) (fun c2 => ?_) (fun c2 => ?_)
  · rw [if_pos c2] at hf
    cases hf
  · rw [if_neg c2] at hf
    refine V_iload_n (pc := 21) X (th_da dtX3_flow 10 rfl) rfl ?_
    by_cases c3 : x2 = 0
    · rw [if_pos c3] at hf
      refine V_tabIn (pc := 22) (tgt := 72) X (th_da dtX3_flow 11 rfl) c3 (by decide) (by decide) rfl (by decide) ?_
      refine V_aload_n (pc := 72) X (th_da dtX3_flow 12 rfl) rfl ?_
      refine V_getR (pc := 73) (j := 1) (t := 2) X (th_da dtX3_flow 13 rfl) wfl_X3_20 iX3 rfl rfl (Nat.le_of_ble_eq_true rfl) rfl ?_
      refine V_getR (pc := 76) (j := 2) (t := 5) X (th_da dtX3_flow 14 rfl) wfl_X3_172 iX0 rfl rfl (Nat.le_of_ble_eq_true rfl) rfl ?_
      refine V_iload_n (pc := 79) X (th_da dtX3_flow 15 rfl) rfl ?_
      obtain ⟨v4, e4, g4, hf⟩ := th_rd_some hf
      refine V_iald (pc := 80) X (th_da dtX3_flow 16 rfl) rfl g4 e4 ?_
      exact V_iretF (pc := 81) X (th_da dtX3_flow 17 rfl) hf
    · rw [if_neg c3] at hf
      by_cases c5 : x2 = 1
      · rw [if_pos c5] at hf
        refine V_tabIn (pc := 22) (tgt := 82) X (th_da dtX3_flow 11 rfl) c5 (by decide) (by decide) rfl (by decide) ?_
        refine V_aload_n (pc := 82) X (th_da dtX3_flow 18 rfl) rfl ?_
        refine V_getR (pc := 83) (j := 1) (t := 2) X (th_da dtX3_flow 19 rfl) wfl_X3_20 iX3 rfl rfl (Nat.le_of_ble_eq_true rfl) rfl ?_
        refine V_getR (pc := 86) (j := 3) (t := 6) X (th_da dtX3_flow 20 rfl) wfl_X3_110 iX0 rfl rfl (Nat.le_of_ble_eq_true rfl) rfl ?_
        refine V_iload_n (pc := 89) X (th_da dtX3_flow 21 rfl) rfl ?_
        obtain ⟨v6, e6, g6, hf⟩ := th_rd_some hf
        refine V_iald (pc := 90) X (th_da dtX3_flow 22 rfl) rfl g6 e6 ?_
        exact V_iretF (pc := 91) X (th_da dtX3_flow 23 rfl) hf
      · rw [if_neg c5] at hf
        by_cases c7 : x2 = 2
        · rw [if_pos c7] at hf
          refine V_tabIn (pc := 22) (tgt := 92) X (th_da dtX3_flow 11 rfl) c7 (by decide) (by decide) rfl (by decide) ?_
          refine V_aload_n (pc := 92) X (th_da dtX3_flow 24 rfl) rfl ?_
          refine V_getR (pc := 93) (j := 1) (t := 2) X (th_da dtX3_flow 25 rfl) wfl_X3_20 iX3 rfl rfl (Nat.le_of_ble_eq_true rfl) rfl ?_
          refine V_getR (pc := 96) (j := 4) (t := 7) X (th_da dtX3_flow 26 rfl) wfl_X3_175 iX0 rfl rfl (Nat.le_of_ble_eq_true rfl) rfl ?_
          refine V_iload_n (pc := 99) X (th_da dtX3_flow 27 rfl) rfl ?_
          obtain ⟨v8, e8, g8, hf⟩ := th_rd_some hf
          refine V_iald (pc := 100) X (th_da dtX3_flow 28 rfl) rfl g8 e8 ?_
          exact V_iretF (pc := 101) X (th_da dtX3_flow 29 rfl) hf
        · rw [if_neg c7] at hf
          by_cases c9 : x2 = 3
          · rw [if_pos c9] at hf
            refine V_tabIn (pc := 22) (tgt := 102) X (th_da dtX3_flow 11 rfl) c9 (by decide) (by decide) rfl (by decide) ?_
            refine V_aload_n (pc := 102) X (th_da dtX3_flow 30 rfl) rfl ?_
            refine V_getR (pc := 103) (j := 1) (t := 2) X (th_da dtX3_flow 31 rfl) wfl_X3_20 iX3 rfl rfl (Nat.le_of_ble_eq_true rfl) rfl ?_
            refine V_getR (pc := 106) (j := 5) (t := 8) X (th_da dtX3_flow 32 rfl) wfl_X3_103 iX0 rfl rfl (Nat.le_of_ble_eq_true rfl) rfl ?_
            refine V_iload_n (pc := 109) X (th_da dtX3_flow 33 rfl) rfl ?_
            obtain ⟨v10, e10, g10, hf⟩ := th_rd_some hf
            refine V_iald (pc := 110) X (th_da dtX3_flow 34 rfl) rfl g10 e10 ?_
            exact V_iretF (pc := 111) X (th_da dtX3_flow 35 rfl) hf
          · rw [if_neg c9] at hf
            by_cases c11 : x2 = 4
            · rw [if_pos c11] at hf
              refine V_tabIn (pc := 22) (tgt := 112) X (th_da dtX3_flow 11 rfl) c11 (by decide) (by decide) rfl (by decide) ?_
              refine V_aload_n (pc := 112) X (th_da dtX3_flow 36 rfl) rfl ?_
              refine V_getR (pc := 113) (j := 1) (t := 2) X (th_da dtX3_flow 37 rfl) wfl_X3_20 iX3 rfl rfl (Nat.le_of_ble_eq_true rfl) rfl ?_
              refine V_getR (pc := 116) (j := 6) (t := 9) X (th_da dtX3_flow 38 rfl) wfl_X3_100 iX0 rfl rfl (Nat.le_of_ble_eq_true rfl) rfl ?_
              refine V_iload_n (pc := 119) X (th_da dtX3_flow 39 rfl) rfl ?_
              obtain ⟨v12, e12, g12, hf⟩ := th_rd_some hf
              refine V_iald (pc := 120) X (th_da dtX3_flow 40 rfl) rfl g12 e12 ?_
              exact V_iretF (pc := 121) X (th_da dtX3_flow 41 rfl) hf
            · rw [if_neg c11] at hf
              by_cases c13 : x2 = 5
              · rw [if_pos c13] at hf
                refine V_tabIn (pc := 22) (tgt := 122) X (th_da dtX3_flow 11 rfl) c13 (by decide) (by decide) rfl (by decide) ?_
                refine V_aload_n (pc := 122) X (th_da dtX3_flow 42 rfl) rfl ?_
                refine V_getR (pc := 123) (j := 1) (t := 2) X (th_da dtX3_flow 43 rfl) wfl_X3_20 iX3 rfl rfl (Nat.le_of_ble_eq_true rfl) rfl ?_
                refine V_iload_n (pc := 126) X (th_da dtX3_flow 44 rfl) rfl ?_
                obtain ⟨u14, h14, e14, hf⟩ := th_bd_some hf
                refine V_callVi (pc := 127) (q := 2) (As := [.int x1]) X (th_da dtX3_flow 45 rfl) (mX0_ownOf l 2 isP_2 _ _ _ _ e14) wcd_X0_ownOf wml_X3_178 wim_X0_ownOf wse_X0_ownOf win_X0_ownOf hd_X0_ownOf ⟨Nat.le_of_ble_eq_true rfl, Nat.le_of_ble_eq_true rfl⟩ (Nat.le_of_ble_eq_true rfl) rfl rfl rfl ?_
                exact V_iretF (pc := 130) X (th_da dtX3_flow 46 rfl) hf
              · rw [if_neg c13] at hf
                by_cases c15 : x2 = 6
                · rw [if_pos c15] at hf
                  refine V_tabIn (pc := 22) (tgt := 131) X (th_da dtX3_flow 11 rfl) c15 (by decide) (by decide) rfl (by decide) ?_
                  refine V_aload_n (pc := 131) X (th_da dtX3_flow 47 rfl) rfl ?_
                  refine V_getR (pc := 132) (j := 0) (t := 1) X (th_da dtX3_flow 48 rfl) wfl_X3_12 iX3 rfl rfl (Nat.le_of_ble_eq_true rfl) rfl ?_
                  refine V_iload_n (pc := 135) X (th_da dtX3_flow 49 rfl) rfl ?_
                  obtain ⟨u16, h16, e16, hf⟩ := th_bd_some hf
                  refine V_callVi (pc := 136) (q := 1) (As := [.int x1]) X (th_da dtX3_flow 50 rfl) (mX1_isHeld l 1 isQ_1 _ _ _ _ e16) wcd_X1_isHeld wml_X3_120 wim_X1_isHeld wse_X1_isHeld win_X1_isHeld hd_X1_isHeld ⟨Nat.le_of_ble_eq_true rfl, Nat.le_of_ble_eq_true rfl⟩ (Nat.le_of_ble_eq_true rfl) rfl rfl rfl ?_
                  refine V_if_eq (pc := 139) (tgt := 146) X (th_da dtX3_flow 51 rfl) (by decide) (fun c17 => ?_) (fun c17 => ?_)
                  · rw [if_pos c17] at hf
                    refine V_iconst (pc := 146) (v := 0) X (th_da dtX3_flow 54 rfl) (by decide) ?_
                    exact V_iretF (pc := 147) X (th_da dtX3_flow 55 rfl) hf
                  · rw [if_neg c17] at hf
                    refine V_iconst (pc := 142) (v := 1) X (th_da dtX3_flow 52 rfl) (by decide) ?_
                    refine V_goto (pc := 143) (tgt := 147) X (th_da dtX3_flow 53 rfl) (by decide) ?_
                    exact V_iretF (pc := 147) X (th_da dtX3_flow 55 rfl) hf
                · rw [if_neg c15] at hf
                  by_cases c18 : x2 = 7
                  · rw [if_pos c18] at hf
                    refine V_tabIn (pc := 22) (tgt := 148) X (th_da dtX3_flow 11 rfl) c18 (by decide) (by decide) rfl (by decide) ?_
                    refine V_aload_n (pc := 148) X (th_da dtX3_flow 56 rfl) rfl ?_
                    refine V_getR (pc := 149) (j := 0) (t := 1) X (th_da dtX3_flow 57 rfl) wfl_X3_12 iX3 rfl rfl (Nat.le_of_ble_eq_true rfl) rfl ?_
                    refine V_getR (pc := 152) (j := 3) (t := 12) X (th_da dtX3_flow 58 rfl) wfl_X3_141 iX1 rfl rfl (Nat.le_of_ble_eq_true rfl) rfl ?_
                    refine V_iload_n (pc := 155) X (th_da dtX3_flow 59 rfl) rfl ?_
                    obtain ⟨v19, e19, g19, hf⟩ := th_rd_some hf
                    refine V_iald (pc := 156) X (th_da dtX3_flow 60 rfl) rfl g19 e19 ?_
                    exact V_iretF (pc := 157) X (th_da dtX3_flow 61 rfl) hf
                  · rw [if_neg c18] at hf
                    by_cases c20 : x2 = 8
                    · rw [if_pos c20] at hf
                      refine V_tabIn (pc := 22) (tgt := 158) X (th_da dtX3_flow 11 rfl) c20 (by decide) (by decide) rfl (by decide) ?_
                      refine V_aload_n (pc := 158) X (th_da dtX3_flow 62 rfl) rfl ?_
                      refine V_getR (pc := 159) (j := 1) (t := 2) X (th_da dtX3_flow 63 rfl) wfl_X3_20 iX3 rfl rfl (Nat.le_of_ble_eq_true rfl) rfl ?_
                      refine V_iload_n (pc := 162) X (th_da dtX3_flow 64 rfl) rfl ?_
                      refine V_aload_n (pc := 163) X (th_da dtX3_flow 65 rfl) rfl ?_
                      refine V_getR (pc := 164) (j := 0) (t := 1) X (th_da dtX3_flow 66 rfl) wfl_X3_12 iX3 rfl rfl (Nat.le_of_ble_eq_true rfl) rfl ?_
                      refine V_getR (pc := 167) (j := 3) (t := 12) X (th_da dtX3_flow 67 rfl) wfl_X3_141 iX1 rfl rfl (Nat.le_of_ble_eq_true rfl) rfl ?_
                      refine V_iload_n (pc := 170) X (th_da dtX3_flow 68 rfl) rfl ?_
                      obtain ⟨v21, e21, g21, hf⟩ := th_rd_some hf
                      refine V_iald (pc := 171) X (th_da dtX3_flow 69 rfl) rfl g21 e21 ?_
                      obtain ⟨u22, h22, e22, hf⟩ := th_bd_some hf
                      refine V_callVi (pc := 172) (q := 2) (As := [.int x1, .int v21]) X (th_da dtX3_flow 70 rfl) (mX0_rateBy l 2 isP_2 _ _ _ _ _ e22) wcd_X0_rateBy wml_X3_181 wim_X0_rateBy wse_X0_rateBy win_X0_rateBy hd_X0_rateBy ⟨Nat.le_of_ble_eq_true rfl, Nat.le_of_ble_eq_true rfl⟩ (Nat.le_of_ble_eq_true rfl) rfl rfl rfl ?_
                      exact V_iretF (pc := 175) X (th_da dtX3_flow 71 rfl) hf
                    · rw [if_neg c20] at hf
                      have n3 := lv_neT c3 (show (0 : Int32).toInt = 0 from rfl)
                      have n5 := lv_neT c5 (show (1 : Int32).toInt = 1 from rfl)
                      have n7 := lv_neT c7 (show (2 : Int32).toInt = 2 from rfl)
                      have n9 := lv_neT c9 (show (3 : Int32).toInt = 3 from rfl)
                      have n11 := lv_neT c11 (show (4 : Int32).toInt = 4 from rfl)
                      have n13 := lv_neT c13 (show (5 : Int32).toInt = 5 from rfl)
                      have n15 := lv_neT c15 (show (6 : Int32).toInt = 6 from rfl)
                      have n18 := lv_neT c18 (show (7 : Int32).toInt = 7 from rfl)
                      have n20 := lv_neT c20 (show (8 : Int32).toInt = 8 from rfl)
                      refine V_tabOut (pc := 22) (tgt := 176) X (th_da dtX3_flow 11 rfl) (by omega) (by decide) ?_
                      refine V_iconst (pc := 176) (v := (-1)) X (th_da dtX3_flow 72 rfl) (by decide) ?_
                      exact V_iretF (pc := 177) X (th_da dtX3_flow 73 rfl) hf
end
def fX3_named (x1 : Int32) (h : th_H) : Option (Int32 × th_H) :=
  th_bd (fX0_flowNamed 2 x1 h) fun u1 h1 =>
  some (u1, h1)
def tbX3_named : List (Nat × Instr × Nat) := [(0, .aload_n 0, 1), (1, .getfield 20, 3), (4, .iload_n 1, 1), (5, .invokevirtual 184, 3), (8, .ireturn, 1)]
theorem dtX3_named : th_dec cX3_named tbX3_named = true := by decide +kernel
section
variable {p0 : Program} {l : Launch} {e : Env} {s : State} {m : MethodId} {args : Array Value} {below : List Frame} {meth : Method} {c : Code} {D : va_G} {cI cZ : ClassId} {ad : Nat → Nat} {rr : Int32} {hh : th_H}
set_option maxHeartbeats 4000000 in
set_option maxRecDepth 100000 in
theorem mX3_named (l : Launch) (x1 : Int32) (h : th_H) (rr : Int32) (hh : th_H) (hf : fX3_named x1 h = some (rr, hh)) : th_MI l LC yX3_named cX3_named 2 (some .int) 2 43 [.ref 0, .int x1] h (some (.int rr)) hh := by
  refine th_MI_of (ls := [.ref 0, .int x1]) RX3 rfl rfl rfl (Nat.le_of_ble_eq_true rfl) ?_
  intro p0 e s m args below meth c D cI cZ ad X
  unfold fX3_named at hf
  refine V_aload_n (pc := 0) X (th_da dtX3_named 0 rfl) rfl ?_
  refine V_getR (pc := 1) (j := 1) (t := 2) X (th_da dtX3_named 1 rfl) wfl_X3_20 iX3 rfl rfl (Nat.le_of_ble_eq_true rfl) rfl ?_
  refine V_iload_n (pc := 4) X (th_da dtX3_named 2 rfl) rfl ?_
  obtain ⟨u1, h1, e1, hf⟩ := th_bd_some hf
  refine V_callVi (pc := 5) (q := 2) (As := [.int x1]) X (th_da dtX3_named 3 rfl) (mX0_flowNamed l 2 isP_2 _ _ _ _ e1) wcd_X0_flowNamed wml_X3_184 wim_X0_flowNamed wse_X0_flowNamed win_X0_flowNamed hd_X0_flowNamed ⟨Nat.le_of_ble_eq_true rfl, Nat.le_of_ble_eq_true rfl⟩ (Nat.le_of_ble_eq_true rfl) rfl rfl rfl ?_
  exact V_iretF (pc := 8) X (th_da dtX3_named 4 rfl) hf
end
def fX3_fair (x1 : Int32) (x2 : Int32) (h : th_H) : Option (Int32 × th_H) :=
  th_bd (fX0_has 2 x1 h) fun u1 h1 =>
  if (u1 = 0 : Prop) then
    none
  else
    th_bd (fX2_rise 19 2 h1) fun _u3 h3 =>
    if x2 = 0 then
      th_bd (fX2_rateOf 19 2 x1 h3) fun u5 h5 =>
      some (u5, h5)
    else
    if x2 = 1 then
      th_rd h3 20 20 x1 fun v7 =>
      some (v7, h3)
    else
    if x2 = 2 then
      th_rd h3 21 20 x1 fun v9 =>
      some (v9, h3)
    else
    if x2 = 3 then
      th_rd h3 22 20 x1 fun v11 =>
      some (v11, h3)
    else
    some ((-1), h3)
def tbX3_fair : List (Nat × Instr × Nat) := [(0, .aload_n 0, 1), (1, .getfield 20, 3), (4, .iload_n 1, 1), (5, .invokevirtual 80, 3), (8, .ifCond .ne 13, 3), (11, .new 165, 3), (14, .dup, 1), (15, .ldc 167, 2), (17, .invokespecial 169, 3), (20, .athrow, 1), (21, .aload_n 0, 1), (22, .getfield 26, 3), (25, .invokevirtual 187, 3), (28, .iload_n 2, 1), (29, .tableswitch 70 0 3 #[31, 40, 50, 60], 31), (60, .aload_n 0, 1), (61, .getfield 26, 3), (64, .iload_n 1, 1), (65, .invokevirtual 190, 3), (68, .ireturn, 1), (69, .aload_n 0, 1), (70, .getfield 26, 3), (73, .getfield 193, 3), (76, .iload_n 1, 1), (77, .iaload, 1), (78, .ireturn, 1), (79, .aload_n 0, 1), (80, .getfield 26, 3), (83, .getfield 196, 3), (86, .iload_n 1, 1), (87, .iaload, 1), (88, .ireturn, 1), (89, .aload_n 0, 1), (90, .getfield 26, 3), (93, .getfield 199, 3), (96, .iload_n 1, 1), (97, .iaload, 1), (98, .ireturn, 1), (99, .iconst (-1), 1), (100, .ireturn, 1)]
theorem dtX3_fair : th_dec cX3_fair tbX3_fair = true := by decide +kernel
section
variable {p0 : Program} {l : Launch} {e : Env} {s : State} {m : MethodId} {args : Array Value} {below : List Frame} {meth : Method} {c : Code} {D : va_G} {cI cZ : ClassId} {ad : Nat → Nat} {rr : Int32} {hh : th_H}
set_option maxHeartbeats 4000000 in
set_option maxRecDepth 100000 in
theorem mX3_fair (l : Launch) (x1 : Int32) (x2 : Int32) (h : th_H) (rr : Int32) (hh : th_H) (hf : fX3_fair x1 x2 h = some (rr, hh)) : th_MI l LC yX3_fair cX3_fair 3 (some .int) 5 121 [.ref 0, .int x1, .int x2] h (some (.int rr)) hh := by
  refine th_MI_of (ls := [.ref 0, .int x1, .int x2]) RX3 rfl rfl rfl (Nat.le_of_ble_eq_true rfl) ?_
  intro p0 e s m args below meth c D cI cZ ad X
  unfold fX3_fair at hf
  refine V_aload_n (pc := 0) X (th_da dtX3_fair 0 rfl) rfl ?_
  refine V_getR (pc := 1) (j := 1) (t := 2) X (th_da dtX3_fair 1 rfl) wfl_X3_20 iX3 rfl rfl (Nat.le_of_ble_eq_true rfl) rfl ?_
  refine V_iload_n (pc := 4) X (th_da dtX3_fair 2 rfl) rfl ?_
  obtain ⟨u1, h1, e1, hf⟩ := th_bd_some hf
  refine V_callVi (pc := 5) (q := 2) (As := [.int x1]) X (th_da dtX3_fair 3 rfl) (mX0_has l 2 isP_2 _ _ _ _ e1) wcd_X0_has wml_X3_80 wim_X0_has wse_X0_has win_X0_has hd_X0_has ⟨Nat.le_of_ble_eq_true rfl, Nat.le_of_ble_eq_true rfl⟩ (Nat.le_of_ble_eq_true rfl) rfl rfl rfl ?_
  refine V_if_ne (pc := 8) (tgt := 21) X (th_da dtX3_fair 4 rfl) (by decide) (fun c2 => ?_) (fun c2 => ?_)
  · rw [if_pos c2] at hf
    cases hf
  · rw [if_neg c2] at hf
    refine V_aload_n (pc := 21) X (th_da dtX3_fair 10 rfl) rfl ?_
    refine V_getR (pc := 22) (j := 2) (t := 19) X (th_da dtX3_fair 11 rfl) wfl_X3_26 iX3 rfl rfl (Nat.le_of_ble_eq_true rfl) rfl ?_
    obtain ⟨u3, h3, e3, hf⟩ := th_bd_some hf
    refine V_callVv (pc := 25) (q := 19) (As := []) X (th_da dtX3_fair 12 rfl) (mX2_rise l 19 2 isW_19 _ _ _ e3) wcd_X2_rise wml_X3_187 wim_X2_rise wse_X2_rise win_X2_rise hd_X2_rise ⟨Nat.le_of_ble_eq_true rfl, Nat.le_of_ble_eq_true rfl⟩ (Nat.le_of_ble_eq_true rfl) rfl rfl rfl ?_
    refine V_iload_n (pc := 28) X (th_da dtX3_fair 13 rfl) rfl ?_
    by_cases c4 : x2 = 0
    · rw [if_pos c4] at hf
      refine V_tabIn (pc := 29) (tgt := 60) X (th_da dtX3_fair 14 rfl) c4 (by decide) (by decide) rfl (by decide) ?_
      refine V_aload_n (pc := 60) X (th_da dtX3_fair 15 rfl) rfl ?_
      refine V_getR (pc := 61) (j := 2) (t := 19) X (th_da dtX3_fair 16 rfl) wfl_X3_26 iX3 rfl rfl (Nat.le_of_ble_eq_true rfl) rfl ?_
      refine V_iload_n (pc := 64) X (th_da dtX3_fair 17 rfl) rfl ?_
      obtain ⟨u5, h5, e5, hf⟩ := th_bd_some hf
      refine V_callVi (pc := 65) (q := 19) (As := [.int x1]) X (th_da dtX3_fair 18 rfl) (mX2_rateOf l 19 2 isW_19 _ _ _ _ e5) wcd_X2_rateOf wml_X3_190 wim_X2_rateOf wse_X2_rateOf win_X2_rateOf hd_X2_rateOf ⟨Nat.le_of_ble_eq_true rfl, Nat.le_of_ble_eq_true rfl⟩ (Nat.le_of_ble_eq_true rfl) rfl rfl rfl ?_
      exact V_iretF (pc := 68) X (th_da dtX3_fair 19 rfl) hf
    · rw [if_neg c4] at hf
      by_cases c6 : x2 = 1
      · rw [if_pos c6] at hf
        refine V_tabIn (pc := 29) (tgt := 69) X (th_da dtX3_fair 14 rfl) c6 (by decide) (by decide) rfl (by decide) ?_
        refine V_aload_n (pc := 69) X (th_da dtX3_fair 20 rfl) rfl ?_
        refine V_getR (pc := 70) (j := 2) (t := 19) X (th_da dtX3_fair 21 rfl) wfl_X3_26 iX3 rfl rfl (Nat.le_of_ble_eq_true rfl) rfl ?_
        refine V_getR (pc := 73) (j := 1) (t := 20) X (th_da dtX3_fair 22 rfl) wfl_X3_193 iX2 rfl rfl (Nat.le_of_ble_eq_true rfl) rfl ?_
        refine V_iload_n (pc := 76) X (th_da dtX3_fair 23 rfl) rfl ?_
        obtain ⟨v7, e7, g7, hf⟩ := th_rd_some hf
        refine V_iald (pc := 77) X (th_da dtX3_fair 24 rfl) rfl g7 e7 ?_
        exact V_iretF (pc := 78) X (th_da dtX3_fair 25 rfl) hf
      · rw [if_neg c6] at hf
        by_cases c8 : x2 = 2
        · rw [if_pos c8] at hf
          refine V_tabIn (pc := 29) (tgt := 79) X (th_da dtX3_fair 14 rfl) c8 (by decide) (by decide) rfl (by decide) ?_
          refine V_aload_n (pc := 79) X (th_da dtX3_fair 26 rfl) rfl ?_
          refine V_getR (pc := 80) (j := 2) (t := 19) X (th_da dtX3_fair 27 rfl) wfl_X3_26 iX3 rfl rfl (Nat.le_of_ble_eq_true rfl) rfl ?_
          refine V_getR (pc := 83) (j := 2) (t := 21) X (th_da dtX3_fair 28 rfl) wfl_X3_196 iX2 rfl rfl (Nat.le_of_ble_eq_true rfl) rfl ?_
          refine V_iload_n (pc := 86) X (th_da dtX3_fair 29 rfl) rfl ?_
          obtain ⟨v9, e9, g9, hf⟩ := th_rd_some hf
          refine V_iald (pc := 87) X (th_da dtX3_fair 30 rfl) rfl g9 e9 ?_
          exact V_iretF (pc := 88) X (th_da dtX3_fair 31 rfl) hf
        · rw [if_neg c8] at hf
          by_cases c10 : x2 = 3
          · rw [if_pos c10] at hf
            refine V_tabIn (pc := 29) (tgt := 89) X (th_da dtX3_fair 14 rfl) c10 (by decide) (by decide) rfl (by decide) ?_
            refine V_aload_n (pc := 89) X (th_da dtX3_fair 32 rfl) rfl ?_
            refine V_getR (pc := 90) (j := 2) (t := 19) X (th_da dtX3_fair 33 rfl) wfl_X3_26 iX3 rfl rfl (Nat.le_of_ble_eq_true rfl) rfl ?_
            refine V_getR (pc := 93) (j := 3) (t := 22) X (th_da dtX3_fair 34 rfl) wfl_X3_199 iX2 rfl rfl (Nat.le_of_ble_eq_true rfl) rfl ?_
            refine V_iload_n (pc := 96) X (th_da dtX3_fair 35 rfl) rfl ?_
            obtain ⟨v11, e11, g11, hf⟩ := th_rd_some hf
            refine V_iald (pc := 97) X (th_da dtX3_fair 36 rfl) rfl g11 e11 ?_
            exact V_iretF (pc := 98) X (th_da dtX3_fair 37 rfl) hf
          · rw [if_neg c10] at hf
            have n4 := lv_neT c4 (show (0 : Int32).toInt = 0 from rfl)
            have n6 := lv_neT c6 (show (1 : Int32).toInt = 1 from rfl)
            have n8 := lv_neT c8 (show (2 : Int32).toInt = 2 from rfl)
            have n10 := lv_neT c10 (show (3 : Int32).toInt = 3 from rfl)
            refine V_tabOut (pc := 29) (tgt := 99) X (th_da dtX3_fair 14 rfl) (by omega) (by decide) ?_
            refine V_iconst (pc := 99) (v := (-1)) X (th_da dtX3_fair 38 rfl) (by decide) ?_
            exact V_iretF (pc := 100) X (th_da dtX3_fair 39 rfl) hf
end
def fX3_used (x1 : Int32) (x2 : Int32) (h : th_H) : Option (Int32 × th_H) :=
  th_bd (fX3_isLink x1 h) fun u1 h1 =>
  if (u1 = 0 : Prop) then
    some ((-1), h1)
  else
    th_bd (fX2_rise 19 2 h1) fun _u3 h3 =>
    if x2 = 0 then
      th_rd h3 4 10 x1 fun v5 =>
      th_bd (fX2_ratesOf 19 2 v5 h3) fun u6 h6 =>
      some (u6, h6)
    else
    if x2 = 1 then
      th_bd (fX2_leftOf 19 2 x1 h3) fun u8 h8 =>
      some (u8, h8)
    else
    if x2 = 2 then
      th_bd (fX2_witnessedBy 19 2 x1 h3) fun u10 h10 =>
      some (u10, h10)
    else
    some ((-1), h3)
def tbX3_used : List (Nat × Instr × Nat) := [(0, .iload_n 1, 1), (1, .invokestatic 49, 3), (4, .ifCond .ne 5, 3), (7, .iconst (-1), 1), (8, .ireturn, 1), (9, .aload_n 0, 1), (10, .getfield 26, 3), (13, .invokevirtual 187, 3), (16, .iload_n 2, 1), (17, .tableswitch 62 0 2 #[27, 44, 53], 27), (44, .aload_n 0, 1), (45, .getfield 26, 3), (48, .aload_n 0, 1), (49, .getfield 20, 3), (52, .getfield 162, 3), (55, .iload_n 1, 1), (56, .iaload, 1), (57, .invokevirtual 202, 3), (60, .ireturn, 1), (61, .aload_n 0, 1), (62, .getfield 26, 3), (65, .iload_n 1, 1), (66, .invokevirtual 205, 3), (69, .ireturn, 1), (70, .aload_n 0, 1), (71, .getfield 26, 3), (74, .iload_n 1, 1), (75, .invokevirtual 208, 3), (78, .ireturn, 1), (79, .iconst (-1), 1), (80, .ireturn, 1)]
theorem dtX3_used : th_dec cX3_used tbX3_used = true := by decide +kernel
section
variable {p0 : Program} {l : Launch} {e : Env} {s : State} {m : MethodId} {args : Array Value} {below : List Frame} {meth : Method} {c : Code} {D : va_G} {cI cZ : ClassId} {ad : Nat → Nat} {rr : Int32} {hh : th_H}
set_option maxHeartbeats 4000000 in
set_option maxRecDepth 100000 in
theorem mX3_used (l : Launch) (x1 : Int32) (x2 : Int32) (h : th_H) (rr : Int32) (hh : th_H) (hf : fX3_used x1 x2 h = some (rr, hh)) : th_MI l LC yX3_used cX3_used 3 (some .int) 5 121 [.ref 0, .int x1, .int x2] h (some (.int rr)) hh := by
  refine th_MI_of (ls := [.ref 0, .int x1, .int x2]) RX3 rfl rfl rfl (Nat.le_of_ble_eq_true rfl) ?_
  intro p0 e s m args below meth c D cI cZ ad X
  unfold fX3_used at hf
  refine V_iload_n (pc := 0) X (th_da dtX3_used 0 rfl) rfl ?_
  obtain ⟨u1, h1, e1, hf⟩ := th_bd_some hf
  refine V_callSi (pc := 1) (As := [.int x1]) X (th_da dtX3_used 1 rfl) (mX3_isLink l _ _ _ _ e1) wcd_X3_isLink wml_X3_49 wst_X3_isLink win_X3_isLink hd_X3_isLink ⟨Nat.le_of_ble_eq_true rfl, Nat.le_of_ble_eq_true rfl⟩ (Nat.le_of_ble_eq_true rfl) rfl ?_
  refine V_if_ne (pc := 4) (tgt := 9) X (th_da dtX3_used 2 rfl) (by decide) (fun c2 => ?_) (fun c2 => ?_)
  · rw [if_pos c2] at hf
    refine V_iconst (pc := 7) (v := (-1)) X (th_da dtX3_used 3 rfl) (by decide) ?_
    exact V_iretF (pc := 8) X (th_da dtX3_used 4 rfl) hf
  · rw [if_neg c2] at hf
    refine V_aload_n (pc := 9) X (th_da dtX3_used 5 rfl) rfl ?_
    refine V_getR (pc := 10) (j := 2) (t := 19) X (th_da dtX3_used 6 rfl) wfl_X3_26 iX3 rfl rfl (Nat.le_of_ble_eq_true rfl) rfl ?_
    obtain ⟨u3, h3, e3, hf⟩ := th_bd_some hf
    refine V_callVv (pc := 13) (q := 19) (As := []) X (th_da dtX3_used 7 rfl) (mX2_rise l 19 2 isW_19 _ _ _ e3) wcd_X2_rise wml_X3_187 wim_X2_rise wse_X2_rise win_X2_rise hd_X2_rise ⟨Nat.le_of_ble_eq_true rfl, Nat.le_of_ble_eq_true rfl⟩ (Nat.le_of_ble_eq_true rfl) rfl rfl rfl ?_
    refine V_iload_n (pc := 16) X (th_da dtX3_used 8 rfl) rfl ?_
    by_cases c4 : x2 = 0
    · rw [if_pos c4] at hf
      refine V_tabIn (pc := 17) (tgt := 44) X (th_da dtX3_used 9 rfl) c4 (by decide) (by decide) rfl (by decide) ?_
      refine V_aload_n (pc := 44) X (th_da dtX3_used 10 rfl) rfl ?_
      refine V_getR (pc := 45) (j := 2) (t := 19) X (th_da dtX3_used 11 rfl) wfl_X3_26 iX3 rfl rfl (Nat.le_of_ble_eq_true rfl) rfl ?_
      refine V_aload_n (pc := 48) X (th_da dtX3_used 12 rfl) rfl ?_
      refine V_getR (pc := 49) (j := 1) (t := 2) X (th_da dtX3_used 13 rfl) wfl_X3_20 iX3 rfl rfl (Nat.le_of_ble_eq_true rfl) rfl ?_
      refine V_getR (pc := 52) (j := 1) (t := 4) X (th_da dtX3_used 14 rfl) wfl_X3_162 iX0 rfl rfl (Nat.le_of_ble_eq_true rfl) rfl ?_
      refine V_iload_n (pc := 55) X (th_da dtX3_used 15 rfl) rfl ?_
      obtain ⟨v5, e5, g5, hf⟩ := th_rd_some hf
      refine V_iald (pc := 56) X (th_da dtX3_used 16 rfl) rfl g5 e5 ?_
      obtain ⟨u6, h6, e6, hf⟩ := th_bd_some hf
      refine V_callVi (pc := 57) (q := 19) (As := [.int v5]) X (th_da dtX3_used 17 rfl) (mX2_ratesOf l 19 2 isW_19 _ _ _ _ e6) wcd_X2_ratesOf wml_X3_202 wim_X2_ratesOf wse_X2_ratesOf win_X2_ratesOf hd_X2_ratesOf ⟨Nat.le_of_ble_eq_true rfl, Nat.le_of_ble_eq_true rfl⟩ (Nat.le_of_ble_eq_true rfl) rfl rfl rfl ?_
      exact V_iretF (pc := 60) X (th_da dtX3_used 18 rfl) hf
    · rw [if_neg c4] at hf
      by_cases c7 : x2 = 1
      · rw [if_pos c7] at hf
        refine V_tabIn (pc := 17) (tgt := 61) X (th_da dtX3_used 9 rfl) c7 (by decide) (by decide) rfl (by decide) ?_
        refine V_aload_n (pc := 61) X (th_da dtX3_used 19 rfl) rfl ?_
        refine V_getR (pc := 62) (j := 2) (t := 19) X (th_da dtX3_used 20 rfl) wfl_X3_26 iX3 rfl rfl (Nat.le_of_ble_eq_true rfl) rfl ?_
        refine V_iload_n (pc := 65) X (th_da dtX3_used 21 rfl) rfl ?_
        obtain ⟨u8, h8, e8, hf⟩ := th_bd_some hf
        refine V_callVi (pc := 66) (q := 19) (As := [.int x1]) X (th_da dtX3_used 22 rfl) (mX2_leftOf l 19 2 isW_19 _ _ _ _ e8) wcd_X2_leftOf wml_X3_205 wim_X2_leftOf wse_X2_leftOf win_X2_leftOf hd_X2_leftOf ⟨Nat.le_of_ble_eq_true rfl, Nat.le_of_ble_eq_true rfl⟩ (Nat.le_of_ble_eq_true rfl) rfl rfl rfl ?_
        exact V_iretF (pc := 69) X (th_da dtX3_used 23 rfl) hf
      · rw [if_neg c7] at hf
        by_cases c9 : x2 = 2
        · rw [if_pos c9] at hf
          refine V_tabIn (pc := 17) (tgt := 70) X (th_da dtX3_used 9 rfl) c9 (by decide) (by decide) rfl (by decide) ?_
          refine V_aload_n (pc := 70) X (th_da dtX3_used 24 rfl) rfl ?_
          refine V_getR (pc := 71) (j := 2) (t := 19) X (th_da dtX3_used 25 rfl) wfl_X3_26 iX3 rfl rfl (Nat.le_of_ble_eq_true rfl) rfl ?_
          refine V_iload_n (pc := 74) X (th_da dtX3_used 26 rfl) rfl ?_
          obtain ⟨u10, h10, e10, hf⟩ := th_bd_some hf
          refine V_callVi (pc := 75) (q := 19) (As := [.int x1]) X (th_da dtX3_used 27 rfl) (mX2_witnessedBy l 19 2 isW_19 _ _ _ _ e10) wcd_X2_witnessedBy wml_X3_208 wim_X2_witnessedBy wse_X2_witnessedBy win_X2_witnessedBy hd_X2_witnessedBy ⟨Nat.le_of_ble_eq_true rfl, Nat.le_of_ble_eq_true rfl⟩ (Nat.le_of_ble_eq_true rfl) rfl rfl rfl ?_
          exact V_iretF (pc := 78) X (th_da dtX3_used 28 rfl) hf
        · rw [if_neg c9] at hf
          have n4 := lv_neT c4 (show (0 : Int32).toInt = 0 from rfl)
          have n7 := lv_neT c7 (show (1 : Int32).toInt = 1 from rfl)
          have n9 := lv_neT c9 (show (2 : Int32).toInt = 2 from rfl)
          refine V_tabOut (pc := 17) (tgt := 79) X (th_da dtX3_used 9 rfl) (by omega) (by decide) ?_
          refine V_iconst (pc := 79) (v := (-1)) X (th_da dtX3_used 29 rfl) (by decide) ?_
          exact V_iretF (pc := 80) X (th_da dtX3_used 30 rfl) hf
end
def fX3_water (x1 : Int32) (h : th_H) : Option (Int32 × th_H) :=
  th_bd (fX2_rise 19 2 h) fun _u1 h1 =>
  if x1 = 0 then
    some ((h1.1 19 8), h1)
  else
  if x1 = 1 then
    th_bd (fX2_leastLevel 19 2 h1) fun u4 h4 =>
    some (u4, h4)
  else
  if x1 = 2 then
    th_bd (fX2_greatestLevel 19 2 h1) fun u6 h6 =>
    some (u6, h6)
  else
  if x1 = 3 then
    th_bd (fX2_ratesOf 19 2 (h1.1 2 7) h1) fun u8 h8 =>
    some (u8, h8)
  else
  some ((-1), h1)
def tbX3_water : List (Nat × Instr × Nat) := [(0, .aload_n 0, 1), (1, .getfield 26, 3), (4, .invokevirtual 187, 3), (7, .iload_n 1, 1), (8, .tableswitch 71 0 3 #[32, 40, 48, 56], 32), (40, .aload_n 0, 1), (41, .getfield 26, 3), (44, .getfield 211, 3), (47, .ireturn, 1), (48, .aload_n 0, 1), (49, .getfield 26, 3), (52, .invokevirtual 214, 3), (55, .ireturn, 1), (56, .aload_n 0, 1), (57, .getfield 26, 3), (60, .invokevirtual 218, 3), (63, .ireturn, 1), (64, .aload_n 0, 1), (65, .getfield 26, 3), (68, .aload_n 0, 1), (69, .getfield 20, 3), (72, .getfield 87, 3), (75, .invokevirtual 202, 3), (78, .ireturn, 1), (79, .iconst (-1), 1), (80, .ireturn, 1)]
theorem dtX3_water : th_dec cX3_water tbX3_water = true := by decide +kernel
section
variable {p0 : Program} {l : Launch} {e : Env} {s : State} {m : MethodId} {args : Array Value} {below : List Frame} {meth : Method} {c : Code} {D : va_G} {cI cZ : ClassId} {ad : Nat → Nat} {rr : Int32} {hh : th_H}
set_option maxHeartbeats 4000000 in
set_option maxRecDepth 100000 in
theorem mX3_water (l : Launch) (x1 : Int32) (h : th_H) (rr : Int32) (hh : th_H) (hf : fX3_water x1 h = some (rr, hh)) : th_MI l LC yX3_water cX3_water 2 (some .int) 5 121 [.ref 0, .int x1] h (some (.int rr)) hh := by
  refine th_MI_of (ls := [.ref 0, .int x1]) RX3 rfl rfl rfl (Nat.le_of_ble_eq_true rfl) ?_
  intro p0 e s m args below meth c D cI cZ ad X
  unfold fX3_water at hf
  refine V_aload_n (pc := 0) X (th_da dtX3_water 0 rfl) rfl ?_
  refine V_getR (pc := 1) (j := 2) (t := 19) X (th_da dtX3_water 1 rfl) wfl_X3_26 iX3 rfl rfl (Nat.le_of_ble_eq_true rfl) rfl ?_
  obtain ⟨u1, h1, e1, hf⟩ := th_bd_some hf
  refine V_callVv (pc := 4) (q := 19) (As := []) X (th_da dtX3_water 2 rfl) (mX2_rise l 19 2 isW_19 _ _ _ e1) wcd_X2_rise wml_X3_187 wim_X2_rise wse_X2_rise win_X2_rise hd_X2_rise ⟨Nat.le_of_ble_eq_true rfl, Nat.le_of_ble_eq_true rfl⟩ (Nat.le_of_ble_eq_true rfl) rfl rfl rfl ?_
  refine V_iload_n (pc := 7) X (th_da dtX3_water 3 rfl) rfl ?_
  by_cases c2 : x1 = 0
  · rw [if_pos c2] at hf
    refine V_tabIn (pc := 8) (tgt := 40) X (th_da dtX3_water 4 rfl) c2 (by decide) (by decide) rfl (by decide) ?_
    refine V_aload_n (pc := 40) X (th_da dtX3_water 5 rfl) rfl ?_
    refine V_getR (pc := 41) (j := 2) (t := 19) X (th_da dtX3_water 6 rfl) wfl_X3_26 iX3 rfl rfl (Nat.le_of_ble_eq_true rfl) rfl ?_
    refine V_getI (pc := 44) (j := 8) X (th_da dtX3_water 7 rfl) wfl_X3_211 iX2 rfl rfl (Nat.le_of_ble_eq_true rfl) rfl ?_
    exact V_iretF (pc := 47) X (th_da dtX3_water 8 rfl) hf
  · rw [if_neg c2] at hf
    by_cases c3 : x1 = 1
    · rw [if_pos c3] at hf
      refine V_tabIn (pc := 8) (tgt := 48) X (th_da dtX3_water 4 rfl) c3 (by decide) (by decide) rfl (by decide) ?_
      refine V_aload_n (pc := 48) X (th_da dtX3_water 9 rfl) rfl ?_
      refine V_getR (pc := 49) (j := 2) (t := 19) X (th_da dtX3_water 10 rfl) wfl_X3_26 iX3 rfl rfl (Nat.le_of_ble_eq_true rfl) rfl ?_
      obtain ⟨u4, h4, e4, hf⟩ := th_bd_some hf
      refine V_callVi (pc := 52) (q := 19) (As := []) X (th_da dtX3_water 11 rfl) (mX2_leastLevel l 19 2 isW_19 _ _ _ e4) wcd_X2_leastLevel wml_X3_214 wim_X2_leastLevel wse_X2_leastLevel win_X2_leastLevel hd_X2_leastLevel ⟨Nat.le_of_ble_eq_true rfl, Nat.le_of_ble_eq_true rfl⟩ (Nat.le_of_ble_eq_true rfl) rfl rfl rfl ?_
      exact V_iretF (pc := 55) X (th_da dtX3_water 12 rfl) hf
    · rw [if_neg c3] at hf
      by_cases c5 : x1 = 2
      · rw [if_pos c5] at hf
        refine V_tabIn (pc := 8) (tgt := 56) X (th_da dtX3_water 4 rfl) c5 (by decide) (by decide) rfl (by decide) ?_
        refine V_aload_n (pc := 56) X (th_da dtX3_water 13 rfl) rfl ?_
        refine V_getR (pc := 57) (j := 2) (t := 19) X (th_da dtX3_water 14 rfl) wfl_X3_26 iX3 rfl rfl (Nat.le_of_ble_eq_true rfl) rfl ?_
        obtain ⟨u6, h6, e6, hf⟩ := th_bd_some hf
        refine V_callVi (pc := 60) (q := 19) (As := []) X (th_da dtX3_water 15 rfl) (mX2_greatestLevel l 19 2 isW_19 _ _ _ e6) wcd_X2_greatestLevel wml_X3_218 wim_X2_greatestLevel wse_X2_greatestLevel win_X2_greatestLevel hd_X2_greatestLevel ⟨Nat.le_of_ble_eq_true rfl, Nat.le_of_ble_eq_true rfl⟩ (Nat.le_of_ble_eq_true rfl) rfl rfl rfl ?_
        exact V_iretF (pc := 63) X (th_da dtX3_water 16 rfl) hf
      · rw [if_neg c5] at hf
        by_cases c7 : x1 = 3
        · rw [if_pos c7] at hf
          refine V_tabIn (pc := 8) (tgt := 64) X (th_da dtX3_water 4 rfl) c7 (by decide) (by decide) rfl (by decide) ?_
          refine V_aload_n (pc := 64) X (th_da dtX3_water 17 rfl) rfl ?_
          refine V_getR (pc := 65) (j := 2) (t := 19) X (th_da dtX3_water 18 rfl) wfl_X3_26 iX3 rfl rfl (Nat.le_of_ble_eq_true rfl) rfl ?_
          refine V_aload_n (pc := 68) X (th_da dtX3_water 19 rfl) rfl ?_
          refine V_getR (pc := 69) (j := 1) (t := 2) X (th_da dtX3_water 20 rfl) wfl_X3_20 iX3 rfl rfl (Nat.le_of_ble_eq_true rfl) rfl ?_
          refine V_getI (pc := 72) (j := 7) X (th_da dtX3_water 21 rfl) wfl_X3_87 iX0 rfl rfl (Nat.le_of_ble_eq_true rfl) rfl ?_
          obtain ⟨u8, h8, e8, hf⟩ := th_bd_some hf
          refine V_callVi (pc := 75) (q := 19) (As := [.int (h1.1 2 7)]) X (th_da dtX3_water 22 rfl) (mX2_ratesOf l 19 2 isW_19 _ _ _ _ e8) wcd_X2_ratesOf wml_X3_202 wim_X2_ratesOf wse_X2_ratesOf win_X2_ratesOf hd_X2_ratesOf ⟨Nat.le_of_ble_eq_true rfl, Nat.le_of_ble_eq_true rfl⟩ (Nat.le_of_ble_eq_true rfl) rfl rfl rfl ?_
          exact V_iretF (pc := 78) X (th_da dtX3_water 23 rfl) hf
        · rw [if_neg c7] at hf
          have n2 := lv_neT c2 (show (0 : Int32).toInt = 0 from rfl)
          have n3 := lv_neT c3 (show (1 : Int32).toInt = 1 from rfl)
          have n5 := lv_neT c5 (show (2 : Int32).toInt = 2 from rfl)
          have n7 := lv_neT c7 (show (3 : Int32).toInt = 3 from rfl)
          refine V_tabOut (pc := 8) (tgt := 79) X (th_da dtX3_water 4 rfl) (by omega) (by decide) ?_
          refine V_iconst (pc := 79) (v := (-1)) X (th_da dtX3_water 24 rfl) (by decide) ?_
          exact V_iretF (pc := 80) X (th_da dtX3_water 25 rfl) hf
end
def fX3_step (x1 : Int32) (x2 : Int32) (h : th_H) : Option (Int32 × th_H) :=
  th_bd (fX2_rise 19 2 h) fun _u1 h1 =>
  if (x1 < 0 : Prop) then
    some ((-1), h1)
  else
    if (x1 < (h1.1 19 8) : Prop) then
      if x2 = 0 then
        th_rd h1 23 20 x1 fun v5 =>
        some (v5, h1)
      else
      if x2 = 1 then
        th_rd h1 24 20 x1 fun v7 =>
        some (v7, h1)
      else
      if x2 = 2 then
        th_rd h1 25 20 x1 fun v9 =>
        some (v9, h1)
      else
      if x2 = 3 then
        th_rd h1 24 20 x1 fun v11 =>
        th_bd (fX2_ratesOf 19 2 v11 h1) fun u12 h12 =>
        some (u12, h12)
      else
      some ((-1), h1)
    else
      some ((-1), h1)
def tbX3_step : List (Nat × Instr × Nat) := [(0, .aload_n 0, 1), (1, .getfield 26, 3), (4, .invokevirtual 187, 3), (7, .iload_n 1, 1), (8, .ifCond .lt 14, 3), (11, .iload_n 1, 1), (12, .aload_n 0, 1), (13, .getfield 26, 3), (16, .getfield 211, 3), (19, .if_icmp .lt 5, 3), (22, .iconst (-1), 1), (23, .ireturn, 1), (24, .iload_n 2, 1), (25, .tableswitch 78 0 3 #[31, 41, 51, 61], 31), (56, .aload_n 0, 1), (57, .getfield 26, 3), (60, .getfield 221, 3), (63, .iload_n 1, 1), (64, .iaload, 1), (65, .ireturn, 1), (66, .aload_n 0, 1), (67, .getfield 26, 3), (70, .getfield 224, 3), (73, .iload_n 1, 1), (74, .iaload, 1), (75, .ireturn, 1), (76, .aload_n 0, 1), (77, .getfield 26, 3), (80, .getfield 227, 3), (83, .iload_n 1, 1), (84, .iaload, 1), (85, .ireturn, 1), (86, .aload_n 0, 1), (87, .getfield 26, 3), (90, .aload_n 0, 1), (91, .getfield 26, 3), (94, .getfield 224, 3), (97, .iload_n 1, 1), (98, .iaload, 1), (99, .invokevirtual 202, 3), (102, .ireturn, 1), (103, .iconst (-1), 1), (104, .ireturn, 1)]
theorem dtX3_step : th_dec cX3_step tbX3_step = true := by decide +kernel
section
variable {p0 : Program} {l : Launch} {e : Env} {s : State} {m : MethodId} {args : Array Value} {below : List Frame} {meth : Method} {c : Code} {D : va_G} {cI cZ : ClassId} {ad : Nat → Nat} {rr : Int32} {hh : th_H}
set_option maxHeartbeats 4000000 in
set_option maxRecDepth 100000 in
theorem mX3_step (l : Launch) (x1 : Int32) (x2 : Int32) (h : th_H) (rr : Int32) (hh : th_H) (hf : fX3_step x1 x2 h = some (rr, hh)) : th_MI l LC yX3_step cX3_step 3 (some .int) 5 121 [.ref 0, .int x1, .int x2] h (some (.int rr)) hh := by
  refine th_MI_of (ls := [.ref 0, .int x1, .int x2]) RX3 rfl rfl rfl (Nat.le_of_ble_eq_true rfl) ?_
  intro p0 e s m args below meth c D cI cZ ad X
  unfold fX3_step at hf
  refine V_aload_n (pc := 0) X (th_da dtX3_step 0 rfl) rfl ?_
  refine V_getR (pc := 1) (j := 2) (t := 19) X (th_da dtX3_step 1 rfl) wfl_X3_26 iX3 rfl rfl (Nat.le_of_ble_eq_true rfl) rfl ?_
  obtain ⟨u1, h1, e1, hf⟩ := th_bd_some hf
  refine V_callVv (pc := 4) (q := 19) (As := []) X (th_da dtX3_step 2 rfl) (mX2_rise l 19 2 isW_19 _ _ _ e1) wcd_X2_rise wml_X3_187 wim_X2_rise wse_X2_rise win_X2_rise hd_X2_rise ⟨Nat.le_of_ble_eq_true rfl, Nat.le_of_ble_eq_true rfl⟩ (Nat.le_of_ble_eq_true rfl) rfl rfl rfl ?_
  refine V_iload_n (pc := 7) X (th_da dtX3_step 3 rfl) rfl ?_
  refine V_if_lt (pc := 8) (tgt := 22) X (th_da dtX3_step 4 rfl) (by decide) (fun c2 => ?_) (fun c2 => ?_)
  · rw [if_pos c2] at hf
    refine V_iconst (pc := 22) (v := (-1)) X (th_da dtX3_step 10 rfl) (by decide) ?_
    exact V_iretF (pc := 23) X (th_da dtX3_step 11 rfl) hf
  · rw [if_neg c2] at hf
    refine V_iload_n (pc := 11) X (th_da dtX3_step 5 rfl) rfl ?_
    refine V_aload_n (pc := 12) X (th_da dtX3_step 6 rfl) rfl ?_
    refine V_getR (pc := 13) (j := 2) (t := 19) X (th_da dtX3_step 7 rfl) wfl_X3_26 iX3 rfl rfl (Nat.le_of_ble_eq_true rfl) rfl ?_
    refine V_getI (pc := 16) (j := 8) X (th_da dtX3_step 8 rfl) wfl_X3_211 iX2 rfl rfl (Nat.le_of_ble_eq_true rfl) rfl ?_
    refine V_icmp_lt (pc := 19) (tgt := 24) X (th_da dtX3_step 9 rfl) (by decide) (fun c3 => ?_) (fun c3 => ?_)
    · rw [if_pos c3] at hf
      refine V_iload_n (pc := 24) X (th_da dtX3_step 12 rfl) rfl ?_
      by_cases c4 : x2 = 0
      · rw [if_pos c4] at hf
        refine V_tabIn (pc := 25) (tgt := 56) X (th_da dtX3_step 13 rfl) c4 (by decide) (by decide) rfl (by decide) ?_
        refine V_aload_n (pc := 56) X (th_da dtX3_step 14 rfl) rfl ?_
        refine V_getR (pc := 57) (j := 2) (t := 19) X (th_da dtX3_step 15 rfl) wfl_X3_26 iX3 rfl rfl (Nat.le_of_ble_eq_true rfl) rfl ?_
        refine V_getR (pc := 60) (j := 4) (t := 23) X (th_da dtX3_step 16 rfl) wfl_X3_221 iX2 rfl rfl (Nat.le_of_ble_eq_true rfl) rfl ?_
        refine V_iload_n (pc := 63) X (th_da dtX3_step 17 rfl) rfl ?_
        obtain ⟨v5, e5, g5, hf⟩ := th_rd_some hf
        refine V_iald (pc := 64) X (th_da dtX3_step 18 rfl) rfl g5 e5 ?_
        exact V_iretF (pc := 65) X (th_da dtX3_step 19 rfl) hf
      · rw [if_neg c4] at hf
        by_cases c6 : x2 = 1
        · rw [if_pos c6] at hf
          refine V_tabIn (pc := 25) (tgt := 66) X (th_da dtX3_step 13 rfl) c6 (by decide) (by decide) rfl (by decide) ?_
          refine V_aload_n (pc := 66) X (th_da dtX3_step 20 rfl) rfl ?_
          refine V_getR (pc := 67) (j := 2) (t := 19) X (th_da dtX3_step 21 rfl) wfl_X3_26 iX3 rfl rfl (Nat.le_of_ble_eq_true rfl) rfl ?_
          refine V_getR (pc := 70) (j := 5) (t := 24) X (th_da dtX3_step 22 rfl) wfl_X3_224 iX2 rfl rfl (Nat.le_of_ble_eq_true rfl) rfl ?_
          refine V_iload_n (pc := 73) X (th_da dtX3_step 23 rfl) rfl ?_
          obtain ⟨v7, e7, g7, hf⟩ := th_rd_some hf
          refine V_iald (pc := 74) X (th_da dtX3_step 24 rfl) rfl g7 e7 ?_
          exact V_iretF (pc := 75) X (th_da dtX3_step 25 rfl) hf
        · rw [if_neg c6] at hf
          by_cases c8 : x2 = 2
          · rw [if_pos c8] at hf
            refine V_tabIn (pc := 25) (tgt := 76) X (th_da dtX3_step 13 rfl) c8 (by decide) (by decide) rfl (by decide) ?_
            refine V_aload_n (pc := 76) X (th_da dtX3_step 26 rfl) rfl ?_
            refine V_getR (pc := 77) (j := 2) (t := 19) X (th_da dtX3_step 27 rfl) wfl_X3_26 iX3 rfl rfl (Nat.le_of_ble_eq_true rfl) rfl ?_
            refine V_getR (pc := 80) (j := 6) (t := 25) X (th_da dtX3_step 28 rfl) wfl_X3_227 iX2 rfl rfl (Nat.le_of_ble_eq_true rfl) rfl ?_
            refine V_iload_n (pc := 83) X (th_da dtX3_step 29 rfl) rfl ?_
            obtain ⟨v9, e9, g9, hf⟩ := th_rd_some hf
            refine V_iald (pc := 84) X (th_da dtX3_step 30 rfl) rfl g9 e9 ?_
            exact V_iretF (pc := 85) X (th_da dtX3_step 31 rfl) hf
          · rw [if_neg c8] at hf
            by_cases c10 : x2 = 3
            · rw [if_pos c10] at hf
              refine V_tabIn (pc := 25) (tgt := 86) X (th_da dtX3_step 13 rfl) c10 (by decide) (by decide) rfl (by decide) ?_
              refine V_aload_n (pc := 86) X (th_da dtX3_step 32 rfl) rfl ?_
              refine V_getR (pc := 87) (j := 2) (t := 19) X (th_da dtX3_step 33 rfl) wfl_X3_26 iX3 rfl rfl (Nat.le_of_ble_eq_true rfl) rfl ?_
              refine V_aload_n (pc := 90) X (th_da dtX3_step 34 rfl) rfl ?_
              refine V_getR (pc := 91) (j := 2) (t := 19) X (th_da dtX3_step 35 rfl) wfl_X3_26 iX3 rfl rfl (Nat.le_of_ble_eq_true rfl) rfl ?_
              refine V_getR (pc := 94) (j := 5) (t := 24) X (th_da dtX3_step 36 rfl) wfl_X3_224 iX2 rfl rfl (Nat.le_of_ble_eq_true rfl) rfl ?_
              refine V_iload_n (pc := 97) X (th_da dtX3_step 37 rfl) rfl ?_
              obtain ⟨v11, e11, g11, hf⟩ := th_rd_some hf
              refine V_iald (pc := 98) X (th_da dtX3_step 38 rfl) rfl g11 e11 ?_
              obtain ⟨u12, h12, e12, hf⟩ := th_bd_some hf
              refine V_callVi (pc := 99) (q := 19) (As := [.int v11]) X (th_da dtX3_step 39 rfl) (mX2_ratesOf l 19 2 isW_19 _ _ _ _ e12) wcd_X2_ratesOf wml_X3_202 wim_X2_ratesOf wse_X2_ratesOf win_X2_ratesOf hd_X2_ratesOf ⟨Nat.le_of_ble_eq_true rfl, Nat.le_of_ble_eq_true rfl⟩ (Nat.le_of_ble_eq_true rfl) rfl rfl rfl ?_
              exact V_iretF (pc := 102) X (th_da dtX3_step 40 rfl) hf
            · rw [if_neg c10] at hf
              have n4 := lv_neT c4 (show (0 : Int32).toInt = 0 from rfl)
              have n6 := lv_neT c6 (show (1 : Int32).toInt = 1 from rfl)
              have n8 := lv_neT c8 (show (2 : Int32).toInt = 2 from rfl)
              have n10 := lv_neT c10 (show (3 : Int32).toInt = 3 from rfl)
              refine V_tabOut (pc := 25) (tgt := 103) X (th_da dtX3_step 13 rfl) (by omega) (by decide) ?_
              refine V_iconst (pc := 103) (v := (-1)) X (th_da dtX3_step 41 rfl) (by decide) ?_
              exact V_iretF (pc := 104) X (th_da dtX3_step 42 rfl) hf
    · rw [if_neg c3] at hf
      refine V_iconst (pc := 22) (v := (-1)) X (th_da dtX3_step 10 rfl) (by decide) ?_
      exact V_iretF (pc := 23) X (th_da dtX3_step 11 rfl) hf
end
def fX3_ranked_c9 : Nat → Int32 → Int32 → th_H → Option (Int32 × th_H)
  | 0, _, _, _ => none
  | n + 1, y1, y2, h =>
    if (y2 < 20 : Prop) then
      th_bd (fX0_has 2 y2 h) fun u2 h2 =>
      if (u2 = 0 : Prop) then
        fX3_ranked_c9 n y1 (y2 + 1) h2
      else
        th_bd (fX2_rankOf 19 2 y2 h2) fun u4 h4 =>
        if (u4 = y1 : Prop) then
          some (y2, h4)
        else
          fX3_ranked_c9 n y1 (y2 + 1) h4
    else
      some ((-1), h)
def fX3_ranked (x1 : Int32) (h : th_H) : Option (Int32 × th_H) :=
  th_bd (fX2_rise 19 2 h) fun _u1 h1 =>
  fX3_ranked_c9 1000 x1 0 h1
def tbX3_ranked : List (Nat × Instr × Nat) := [(0, .aload_n 0, 1), (1, .getfield 26, 3), (4, .invokevirtual 187, 3), (7, .iconst 0, 1), (8, .istore_n 2, 1), (9, .iload_n 2, 1), (10, .bipush 20, 2), (12, .if_icmp .ge 34, 3), (15, .aload_n 0, 1), (16, .getfield 20, 3), (19, .iload_n 2, 1), (20, .invokevirtual 80, 3), (23, .ifCond .eq 17, 3), (26, .aload_n 0, 1), (27, .getfield 26, 3), (30, .iload_n 2, 1), (31, .invokevirtual 230, 3), (34, .iload_n 1, 1), (35, .if_icmp .ne 5, 3), (38, .iload_n 2, 1), (39, .ireturn, 1), (40, .iinc 2 1, 3), (43, .goto (-34), 3), (46, .iconst (-1), 1), (47, .ireturn, 1)]
theorem dtX3_ranked : th_dec cX3_ranked tbX3_ranked = true := by decide +kernel
section
variable {p0 : Program} {l : Launch} {e : Env} {s : State} {m : MethodId} {args : Array Value} {below : List Frame} {meth : Method} {c : Code} {D : va_G} {cI cZ : ClassId} {ad : Nat → Nat} {rr : Int32} {hh : th_H}
set_option maxHeartbeats 4000000 in
set_option maxRecDepth 100000 in
theorem tX3_ranked_c9 (X : th_X p0 s m args meth c D cI cZ ad LC 3 RX3 cX3_ranked (some .int)) : ∀ (n : Nat) (y1 : Int32) (y2 : Int32) (h : th_H), fX3_ranked_c9 n y1 y2 h = some (rr, hh) → th_V p0 l e { frames := 5, cells := 0, slots := 0, locals := 121 } s m args below meth c D cI cZ ad LC 3 (some (.int rr)) hh 9 [.ref 0, .int y1, .int y2] [] h := by
  intro n
  induction n with
  | zero => intro y1 y2 h hf; cases hf
  | succ n ih =>
    intro y1 y2 h hf
    rw [fX3_ranked_c9] at hf
    refine V_iload_n (pc := 9) X (th_da dtX3_ranked 5 rfl) rfl ?_
    refine V_bipush (pc := 10) (v := 20) X (th_da dtX3_ranked 6 rfl) (by decide) ?_
    refine V_icmp_ge (pc := 12) (tgt := 46) X (th_da dtX3_ranked 7 rfl) (by decide) (fun c1 => ?_) (fun c1 => ?_)
    · rw [if_pos c1] at hf
      refine V_aload_n (pc := 15) X (th_da dtX3_ranked 8 rfl) rfl ?_
      refine V_getR (pc := 16) (j := 1) (t := 2) X (th_da dtX3_ranked 9 rfl) wfl_X3_20 iX3 rfl rfl (Nat.le_of_ble_eq_true rfl) rfl ?_
      refine V_iload_n (pc := 19) X (th_da dtX3_ranked 10 rfl) rfl ?_
      obtain ⟨u2, h2, e2, hf⟩ := th_bd_some hf
      refine V_callVi (pc := 20) (q := 2) (As := [.int y2]) X (th_da dtX3_ranked 11 rfl) (mX0_has l 2 isP_2 _ _ _ _ e2) wcd_X0_has wml_X3_80 wim_X0_has wse_X0_has win_X0_has hd_X0_has ⟨Nat.le_of_ble_eq_true rfl, Nat.le_of_ble_eq_true rfl⟩ (Nat.le_of_ble_eq_true rfl) rfl rfl rfl ?_
      refine V_if_eq (pc := 23) (tgt := 40) X (th_da dtX3_ranked 12 rfl) (by decide) (fun c3 => ?_) (fun c3 => ?_)
      · rw [if_pos c3] at hf
        refine V_iinc (pc := 40) (v := y2 + 1) (ls2 := [.ref 0, .int y1, .int (y2 + 1)]) X (th_da dtX3_ranked 21 rfl) rfl rfl (Nat.le_of_ble_eq_true rfl) rfl rfl ?_
        refine V_goto (pc := 43) (tgt := 9) X (th_da dtX3_ranked 22 rfl) (by decide) ?_
        exact ih _ _ _ hf
      · rw [if_neg c3] at hf
        refine V_aload_n (pc := 26) X (th_da dtX3_ranked 13 rfl) rfl ?_
        refine V_getR (pc := 27) (j := 2) (t := 19) X (th_da dtX3_ranked 14 rfl) wfl_X3_26 iX3 rfl rfl (Nat.le_of_ble_eq_true rfl) rfl ?_
        refine V_iload_n (pc := 30) X (th_da dtX3_ranked 15 rfl) rfl ?_
        obtain ⟨u4, h4, e4, hf⟩ := th_bd_some hf
        refine V_callVi (pc := 31) (q := 19) (As := [.int y2]) X (th_da dtX3_ranked 16 rfl) (mX2_rankOf l 19 2 isW_19 _ _ _ _ e4) wcd_X2_rankOf wml_X3_230 wim_X2_rankOf wse_X2_rankOf win_X2_rankOf hd_X2_rankOf ⟨Nat.le_of_ble_eq_true rfl, Nat.le_of_ble_eq_true rfl⟩ (Nat.le_of_ble_eq_true rfl) rfl rfl rfl ?_
        refine V_iload_n (pc := 34) X (th_da dtX3_ranked 17 rfl) rfl ?_
        refine V_icmp_ne (pc := 35) (tgt := 40) X (th_da dtX3_ranked 18 rfl) (by decide) (fun c5 => ?_) (fun c5 => ?_)
        · rw [if_pos c5] at hf
          refine V_iload_n (pc := 38) X (th_da dtX3_ranked 19 rfl) rfl ?_
          exact V_iretF (pc := 39) X (th_da dtX3_ranked 20 rfl) hf
        · rw [if_neg c5] at hf
          refine V_iinc (pc := 40) (v := y2 + 1) (ls2 := [.ref 0, .int y1, .int (y2 + 1)]) X (th_da dtX3_ranked 21 rfl) rfl rfl (Nat.le_of_ble_eq_true rfl) rfl rfl ?_
          refine V_goto (pc := 43) (tgt := 9) X (th_da dtX3_ranked 22 rfl) (by decide) ?_
          exact ih _ _ _ hf
    · rw [if_neg c1] at hf
      refine V_iconst (pc := 46) (v := (-1)) X (th_da dtX3_ranked 23 rfl) (by decide) ?_
      exact V_iretF (pc := 47) X (th_da dtX3_ranked 24 rfl) hf
set_option maxHeartbeats 4000000 in
set_option maxRecDepth 100000 in
theorem mX3_ranked (l : Launch) (x1 : Int32) (h : th_H) (rr : Int32) (hh : th_H) (hf : fX3_ranked x1 h = some (rr, hh)) : th_MI l LC yX3_ranked cX3_ranked 3 (some .int) 5 121 [.ref 0, .int x1] h (some (.int rr)) hh := by
  refine th_MI_of (ls := [.ref 0, .int x1, .null]) RX3 rfl rfl rfl (Nat.le_of_ble_eq_true rfl) ?_
  intro p0 e s m args below meth c D cI cZ ad X
  unfold fX3_ranked at hf
  refine V_aload_n (pc := 0) X (th_da dtX3_ranked 0 rfl) rfl ?_
  refine V_getR (pc := 1) (j := 2) (t := 19) X (th_da dtX3_ranked 1 rfl) wfl_X3_26 iX3 rfl rfl (Nat.le_of_ble_eq_true rfl) rfl ?_
  obtain ⟨u1, h1, e1, hf⟩ := th_bd_some hf
  refine V_callVv (pc := 4) (q := 19) (As := []) X (th_da dtX3_ranked 2 rfl) (mX2_rise l 19 2 isW_19 _ _ _ e1) wcd_X2_rise wml_X3_187 wim_X2_rise wse_X2_rise win_X2_rise hd_X2_rise ⟨Nat.le_of_ble_eq_true rfl, Nat.le_of_ble_eq_true rfl⟩ (Nat.le_of_ble_eq_true rfl) rfl rfl rfl ?_
  refine V_iconst (pc := 7) (v := 0) X (th_da dtX3_ranked 3 rfl) (by decide) ?_
  refine V_istore_n (pc := 8) (ls2 := [.ref 0, .int x1, .int 0]) X (th_da dtX3_ranked 4 rfl) (Nat.le_of_ble_eq_true rfl) rfl rfl ?_
  exact tX3_ranked_c9 X _ _ _ _ hf
end
def fX3_proof (x1 : Int32) (x2 : Int32) (h : th_H) : Option (Int32 × th_H) :=
  th_bd (fX0_has 2 x1 h) fun u1 h1 =>
  if (u1 = 0 : Prop) then
    none
  else
    th_bd (fX2_rise 19 2 h1) fun _u3 h3 =>
    th_rd h3 21 20 x1 fun v4 =>
    th_bd (fX3_isLink v4 h3) fun u5 h5 =>
    if (u5 = 0 : Prop) then
      some ((-1), h5)
    else
      th_rd h5 4 10 v4 fun v7 =>
      th_rd h5 20 20 x1 fun v8 =>
      th_bd (fX2_below 19 2 v7 v8 h5) fun u9 h9 =>
      th_rd h9 20 20 x1 fun v10 =>
      th_bd (fX2_below 19 2 v7 (v10 + 1) h9) fun u11 h11 =>
      if x2 = 0 then
        th_bd (fJ6_bitCount_0f7a4 (v7 &&& (u11 ^^^ (-1))) h11) fun u13 h13 =>
        some (u13, h13)
      else
      if x2 = 1 then
        th_bd (fJ6_bitCount_0f7a4 (u11 &&& (u9 ^^^ (-1))) h11) fun u15 h15 =>
        some (u15, h15)
      else
      if x2 = 2 then
        th_bd (fX2_ratesOf 19 2 u9 h11) fun u17 h17 =>
        some (u17, h17)
      else
      some ((-1), h11)
def tbX3_proof : List (Nat × Instr × Nat) := [(0, .aload_n 0, 1), (1, .getfield 20, 3), (4, .iload_n 1, 1), (5, .invokevirtual 80, 3), (8, .ifCond .ne 13, 3), (11, .new 165, 3), (14, .dup, 1), (15, .ldc 167, 2), (17, .invokespecial 169, 3), (20, .athrow, 1), (21, .aload_n 0, 1), (22, .getfield 26, 3), (25, .invokevirtual 187, 3), (28, .aload_n 0, 1), (29, .getfield 26, 3), (32, .getfield 196, 3), (35, .iload_n 1, 1), (36, .iaload, 1), (37, .istore_n 3, 1), (38, .iload_n 3, 1), (39, .invokestatic 49, 3), (42, .ifCond .ne 5, 3), (45, .iconst (-1), 1), (46, .ireturn, 1), (47, .aload_n 0, 1), (48, .getfield 20, 3), (51, .getfield 162, 3), (54, .iload_n 3, 1), (55, .iaload, 1), (56, .istore 4, 2), (58, .aload_n 0, 1), (59, .getfield 26, 3), (62, .iload 4, 2), (64, .aload_n 0, 1), (65, .getfield 26, 3), (68, .getfield 193, 3), (71, .iload_n 1, 1), (72, .iaload, 1), (73, .invokevirtual 233, 3), (76, .istore 5, 2), (78, .aload_n 0, 1), (79, .getfield 26, 3), (82, .iload 4, 2), (84, .aload_n 0, 1), (85, .getfield 26, 3), (88, .getfield 193, 3), (91, .iload_n 1, 1), (92, .iaload, 1), (93, .iconst 1, 1), (94, .iadd, 1), (95, .invokevirtual 233, 3), (98, .istore 6, 2), (100, .iload_n 2, 1), (101, .tableswitch 59 0 2 #[27, 38, 49], 27), (128, .iload 4, 2), (130, .iload 6, 2), (132, .iconst (-1), 1), (133, .ixor, 1), (134, .iand, 1), (135, .invokestatic 91, 3), (138, .ireturn, 1), (139, .iload 6, 2), (141, .iload 5, 2), (143, .iconst (-1), 1), (144, .ixor, 1), (145, .iand, 1), (146, .invokestatic 91, 3), (149, .ireturn, 1), (150, .aload_n 0, 1), (151, .getfield 26, 3), (154, .iload 5, 2), (156, .invokevirtual 202, 3), (159, .ireturn, 1), (160, .iconst (-1), 1), (161, .ireturn, 1)]
theorem dtX3_proof : th_dec cX3_proof tbX3_proof = true := by decide +kernel
section
variable {p0 : Program} {l : Launch} {e : Env} {s : State} {m : MethodId} {args : Array Value} {below : List Frame} {meth : Method} {c : Code} {D : va_G} {cI cZ : ClassId} {ad : Nat → Nat} {rr : Int32} {hh : th_H}
set_option maxHeartbeats 4000000 in
set_option maxRecDepth 100000 in
theorem mX3_proof (l : Launch) (x1 : Int32) (x2 : Int32) (h : th_H) (rr : Int32) (hh : th_H) (hf : fX3_proof x1 x2 h = some (rr, hh)) : th_MI l LC yX3_proof cX3_proof 7 (some .int) 5 121 [.ref 0, .int x1, .int x2] h (some (.int rr)) hh := by
  refine th_MI_of (ls := [.ref 0, .int x1, .int x2, .null, .null, .null, .null]) RX3 rfl rfl rfl (Nat.le_of_ble_eq_true rfl) ?_
  intro p0 e s m args below meth c D cI cZ ad X
  unfold fX3_proof at hf
  refine V_aload_n (pc := 0) X (th_da dtX3_proof 0 rfl) rfl ?_
  refine V_getR (pc := 1) (j := 1) (t := 2) X (th_da dtX3_proof 1 rfl) wfl_X3_20 iX3 rfl rfl (Nat.le_of_ble_eq_true rfl) rfl ?_
  refine V_iload_n (pc := 4) X (th_da dtX3_proof 2 rfl) rfl ?_
  obtain ⟨u1, h1, e1, hf⟩ := th_bd_some hf
  refine V_callVi (pc := 5) (q := 2) (As := [.int x1]) X (th_da dtX3_proof 3 rfl) (mX0_has l 2 isP_2 _ _ _ _ e1) wcd_X0_has wml_X3_80 wim_X0_has wse_X0_has win_X0_has hd_X0_has ⟨Nat.le_of_ble_eq_true rfl, Nat.le_of_ble_eq_true rfl⟩ (Nat.le_of_ble_eq_true rfl) rfl rfl rfl ?_
  refine V_if_ne (pc := 8) (tgt := 21) X (th_da dtX3_proof 4 rfl) (by decide) (fun c2 => ?_) (fun c2 => ?_)
  · rw [if_pos c2] at hf
    cases hf
  · rw [if_neg c2] at hf
    refine V_aload_n (pc := 21) X (th_da dtX3_proof 10 rfl) rfl ?_
    refine V_getR (pc := 22) (j := 2) (t := 19) X (th_da dtX3_proof 11 rfl) wfl_X3_26 iX3 rfl rfl (Nat.le_of_ble_eq_true rfl) rfl ?_
    obtain ⟨u3, h3, e3, hf⟩ := th_bd_some hf
    refine V_callVv (pc := 25) (q := 19) (As := []) X (th_da dtX3_proof 12 rfl) (mX2_rise l 19 2 isW_19 _ _ _ e3) wcd_X2_rise wml_X3_187 wim_X2_rise wse_X2_rise win_X2_rise hd_X2_rise ⟨Nat.le_of_ble_eq_true rfl, Nat.le_of_ble_eq_true rfl⟩ (Nat.le_of_ble_eq_true rfl) rfl rfl rfl ?_
    refine V_aload_n (pc := 28) X (th_da dtX3_proof 13 rfl) rfl ?_
    refine V_getR (pc := 29) (j := 2) (t := 19) X (th_da dtX3_proof 14 rfl) wfl_X3_26 iX3 rfl rfl (Nat.le_of_ble_eq_true rfl) rfl ?_
    refine V_getR (pc := 32) (j := 2) (t := 21) X (th_da dtX3_proof 15 rfl) wfl_X3_196 iX2 rfl rfl (Nat.le_of_ble_eq_true rfl) rfl ?_
    refine V_iload_n (pc := 35) X (th_da dtX3_proof 16 rfl) rfl ?_
    obtain ⟨v4, e4, g4, hf⟩ := th_rd_some hf
    refine V_iald (pc := 36) X (th_da dtX3_proof 17 rfl) rfl g4 e4 ?_
    refine V_istore_n (pc := 37) (ls2 := [.ref 0, .int x1, .int x2, .int v4, .null, .null, .null]) X (th_da dtX3_proof 18 rfl) (Nat.le_of_ble_eq_true rfl) rfl rfl ?_
    refine V_iload_n (pc := 38) X (th_da dtX3_proof 19 rfl) rfl ?_
    obtain ⟨u5, h5, e5, hf⟩ := th_bd_some hf
    refine V_callSi (pc := 39) (As := [.int v4]) X (th_da dtX3_proof 20 rfl) (mX3_isLink l _ _ _ _ e5) wcd_X3_isLink wml_X3_49 wst_X3_isLink win_X3_isLink hd_X3_isLink ⟨Nat.le_of_ble_eq_true rfl, Nat.le_of_ble_eq_true rfl⟩ (Nat.le_of_ble_eq_true rfl) rfl ?_
    refine V_if_ne (pc := 42) (tgt := 47) X (th_da dtX3_proof 21 rfl) (by decide) (fun c6 => ?_) (fun c6 => ?_)
    · rw [if_pos c6] at hf
      refine V_iconst (pc := 45) (v := (-1)) X (th_da dtX3_proof 22 rfl) (by decide) ?_
      exact V_iretF (pc := 46) X (th_da dtX3_proof 23 rfl) hf
    · rw [if_neg c6] at hf
      refine V_aload_n (pc := 47) X (th_da dtX3_proof 24 rfl) rfl ?_
      refine V_getR (pc := 48) (j := 1) (t := 2) X (th_da dtX3_proof 25 rfl) wfl_X3_20 iX3 rfl rfl (Nat.le_of_ble_eq_true rfl) rfl ?_
      refine V_getR (pc := 51) (j := 1) (t := 4) X (th_da dtX3_proof 26 rfl) wfl_X3_162 iX0 rfl rfl (Nat.le_of_ble_eq_true rfl) rfl ?_
      refine V_iload_n (pc := 54) X (th_da dtX3_proof 27 rfl) rfl ?_
      obtain ⟨v7, e7, g7, hf⟩ := th_rd_some hf
      refine V_iald (pc := 55) X (th_da dtX3_proof 28 rfl) rfl g7 e7 ?_
      refine V_istore (pc := 56) (ls2 := [.ref 0, .int x1, .int x2, .int v4, .int v7, .null, .null]) X (th_da dtX3_proof 29 rfl) (Nat.le_of_ble_eq_true rfl) rfl rfl ?_
      refine V_aload_n (pc := 58) X (th_da dtX3_proof 30 rfl) rfl ?_
      refine V_getR (pc := 59) (j := 2) (t := 19) X (th_da dtX3_proof 31 rfl) wfl_X3_26 iX3 rfl rfl (Nat.le_of_ble_eq_true rfl) rfl ?_
      refine V_iload (pc := 62) X (th_da dtX3_proof 32 rfl) rfl ?_
      refine V_aload_n (pc := 64) X (th_da dtX3_proof 33 rfl) rfl ?_
      refine V_getR (pc := 65) (j := 2) (t := 19) X (th_da dtX3_proof 34 rfl) wfl_X3_26 iX3 rfl rfl (Nat.le_of_ble_eq_true rfl) rfl ?_
      refine V_getR (pc := 68) (j := 1) (t := 20) X (th_da dtX3_proof 35 rfl) wfl_X3_193 iX2 rfl rfl (Nat.le_of_ble_eq_true rfl) rfl ?_
      refine V_iload_n (pc := 71) X (th_da dtX3_proof 36 rfl) rfl ?_
      obtain ⟨v8, e8, g8, hf⟩ := th_rd_some hf
      refine V_iald (pc := 72) X (th_da dtX3_proof 37 rfl) rfl g8 e8 ?_
      obtain ⟨u9, h9, e9, hf⟩ := th_bd_some hf
      refine V_callVi (pc := 73) (q := 19) (As := [.int v7, .int v8]) X (th_da dtX3_proof 38 rfl) (mX2_below l 19 2 isW_19 _ _ _ _ _ e9) wcd_X2_below wml_X3_233 wim_X2_below wse_X2_below win_X2_below hd_X2_below ⟨Nat.le_of_ble_eq_true rfl, Nat.le_of_ble_eq_true rfl⟩ (Nat.le_of_ble_eq_true rfl) rfl rfl rfl ?_
      refine V_istore (pc := 76) (ls2 := [.ref 0, .int x1, .int x2, .int v4, .int v7, .int u9, .null]) X (th_da dtX3_proof 39 rfl) (Nat.le_of_ble_eq_true rfl) rfl rfl ?_
      refine V_aload_n (pc := 78) X (th_da dtX3_proof 40 rfl) rfl ?_
      refine V_getR (pc := 79) (j := 2) (t := 19) X (th_da dtX3_proof 41 rfl) wfl_X3_26 iX3 rfl rfl (Nat.le_of_ble_eq_true rfl) rfl ?_
      refine V_iload (pc := 82) X (th_da dtX3_proof 42 rfl) rfl ?_
      refine V_aload_n (pc := 84) X (th_da dtX3_proof 43 rfl) rfl ?_
      refine V_getR (pc := 85) (j := 2) (t := 19) X (th_da dtX3_proof 44 rfl) wfl_X3_26 iX3 rfl rfl (Nat.le_of_ble_eq_true rfl) rfl ?_
      refine V_getR (pc := 88) (j := 1) (t := 20) X (th_da dtX3_proof 45 rfl) wfl_X3_193 iX2 rfl rfl (Nat.le_of_ble_eq_true rfl) rfl ?_
      refine V_iload_n (pc := 91) X (th_da dtX3_proof 46 rfl) rfl ?_
      obtain ⟨v10, e10, g10, hf⟩ := th_rd_some hf
      refine V_iald (pc := 92) X (th_da dtX3_proof 47 rfl) rfl g10 e10 ?_
      refine V_iconst (pc := 93) (v := 1) X (th_da dtX3_proof 48 rfl) (by decide) ?_
      refine V_iadd (pc := 94) X (th_da dtX3_proof 49 rfl) ?_
      obtain ⟨u11, h11, e11, hf⟩ := th_bd_some hf
      refine V_callVi (pc := 95) (q := 19) (As := [.int v7, .int (v10 + 1)]) X (th_da dtX3_proof 50 rfl) (mX2_below l 19 2 isW_19 _ _ _ _ _ e11) wcd_X2_below wml_X3_233 wim_X2_below wse_X2_below win_X2_below hd_X2_below ⟨Nat.le_of_ble_eq_true rfl, Nat.le_of_ble_eq_true rfl⟩ (Nat.le_of_ble_eq_true rfl) rfl rfl rfl ?_
      refine V_istore (pc := 98) (ls2 := [.ref 0, .int x1, .int x2, .int v4, .int v7, .int u9, .int u11]) X (th_da dtX3_proof 51 rfl) (Nat.le_of_ble_eq_true rfl) rfl rfl ?_
      refine V_iload_n (pc := 100) X (th_da dtX3_proof 52 rfl) rfl ?_
      by_cases c12 : x2 = 0
      · rw [if_pos c12] at hf
        refine V_tabIn (pc := 101) (tgt := 128) X (th_da dtX3_proof 53 rfl) c12 (by decide) (by decide) rfl (by decide) ?_
        refine V_iload (pc := 128) X (th_da dtX3_proof 54 rfl) rfl ?_
        refine V_iload (pc := 130) X (th_da dtX3_proof 55 rfl) rfl ?_
        refine V_iconst (pc := 132) (v := (-1)) X (th_da dtX3_proof 56 rfl) (by decide) ?_
        refine V_ixor (pc := 133) X (th_da dtX3_proof 57 rfl) ?_
        refine V_iand (pc := 134) X (th_da dtX3_proof 58 rfl) ?_
        obtain ⟨u13, h13, e13, hf⟩ := th_bd_some hf
        refine V_callSi (pc := 135) (As := [.int (v7 &&& (u11 ^^^ (-1)))]) X (th_da dtX3_proof 59 rfl) (mJ6_bitCount_0f7a4 l _ _ _ _ e13) wcd_J6_bitCount_0f7a4 wml_X3_91 wst_J6_bitCount_0f7a4 win_J6_bitCount_0f7a4 hd_J6_bitCount_0f7a4 ⟨Nat.le_of_ble_eq_true rfl, Nat.le_of_ble_eq_true rfl⟩ (Nat.le_of_ble_eq_true rfl) rfl ?_
        exact V_iretF (pc := 138) X (th_da dtX3_proof 60 rfl) hf
      · rw [if_neg c12] at hf
        by_cases c14 : x2 = 1
        · rw [if_pos c14] at hf
          refine V_tabIn (pc := 101) (tgt := 139) X (th_da dtX3_proof 53 rfl) c14 (by decide) (by decide) rfl (by decide) ?_
          refine V_iload (pc := 139) X (th_da dtX3_proof 61 rfl) rfl ?_
          refine V_iload (pc := 141) X (th_da dtX3_proof 62 rfl) rfl ?_
          refine V_iconst (pc := 143) (v := (-1)) X (th_da dtX3_proof 63 rfl) (by decide) ?_
          refine V_ixor (pc := 144) X (th_da dtX3_proof 64 rfl) ?_
          refine V_iand (pc := 145) X (th_da dtX3_proof 65 rfl) ?_
          obtain ⟨u15, h15, e15, hf⟩ := th_bd_some hf
          refine V_callSi (pc := 146) (As := [.int (u11 &&& (u9 ^^^ (-1)))]) X (th_da dtX3_proof 66 rfl) (mJ6_bitCount_0f7a4 l _ _ _ _ e15) wcd_J6_bitCount_0f7a4 wml_X3_91 wst_J6_bitCount_0f7a4 win_J6_bitCount_0f7a4 hd_J6_bitCount_0f7a4 ⟨Nat.le_of_ble_eq_true rfl, Nat.le_of_ble_eq_true rfl⟩ (Nat.le_of_ble_eq_true rfl) rfl ?_
          exact V_iretF (pc := 149) X (th_da dtX3_proof 67 rfl) hf
        · rw [if_neg c14] at hf
          by_cases c16 : x2 = 2
          · rw [if_pos c16] at hf
            refine V_tabIn (pc := 101) (tgt := 150) X (th_da dtX3_proof 53 rfl) c16 (by decide) (by decide) rfl (by decide) ?_
            refine V_aload_n (pc := 150) X (th_da dtX3_proof 68 rfl) rfl ?_
            refine V_getR (pc := 151) (j := 2) (t := 19) X (th_da dtX3_proof 69 rfl) wfl_X3_26 iX3 rfl rfl (Nat.le_of_ble_eq_true rfl) rfl ?_
            refine V_iload (pc := 154) X (th_da dtX3_proof 70 rfl) rfl ?_
            obtain ⟨u17, h17, e17, hf⟩ := th_bd_some hf
            refine V_callVi (pc := 156) (q := 19) (As := [.int u9]) X (th_da dtX3_proof 71 rfl) (mX2_ratesOf l 19 2 isW_19 _ _ _ _ e17) wcd_X2_ratesOf wml_X3_202 wim_X2_ratesOf wse_X2_ratesOf win_X2_ratesOf hd_X2_ratesOf ⟨Nat.le_of_ble_eq_true rfl, Nat.le_of_ble_eq_true rfl⟩ (Nat.le_of_ble_eq_true rfl) rfl rfl rfl ?_
            exact V_iretF (pc := 159) X (th_da dtX3_proof 72 rfl) hf
          · rw [if_neg c16] at hf
            have n12 := lv_neT c12 (show (0 : Int32).toInt = 0 from rfl)
            have n14 := lv_neT c14 (show (1 : Int32).toInt = 1 from rfl)
            have n16 := lv_neT c16 (show (2 : Int32).toInt = 2 from rfl)
            refine V_tabOut (pc := 101) (tgt := 160) X (th_da dtX3_proof 53 rfl) (by omega) (by decide) ?_
            refine V_iconst (pc := 160) (v := (-1)) X (th_da dtX3_proof 73 rfl) (by decide) ?_
            exact V_iretF (pc := 161) X (th_da dtX3_proof 74 rfl) hf
end
def fX3_fullest_c9 : Nat → Int32 → Int32 → th_H → Option (Int32 × th_H)
  | 0, _, _, _ => none
  | n + 1, y1, y2, h =>
    if (y2 < 10 : Prop) then
      th_rd h 4 10 y2 fun v2 =>
      if (v2 = 0 : Prop) then
        fX3_fullest_c9 n y1 (y2 + 1) h
      else
        th_bd (fX2_fullnessOf 19 2 y2 h) fun u4 h4 =>
        if (u4 = y1 : Prop) then
          some (y2, h4)
        else
          fX3_fullest_c9 n y1 (y2 + 1) h4
    else
      some ((-1), h)
def fX3_fullest (x1 : Int32) (h : th_H) : Option (Int32 × th_H) :=
  th_bd (fX2_rise 19 2 h) fun _u1 h1 =>
  fX3_fullest_c9 1000 x1 0 h1
def tbX3_fullest : List (Nat × Instr × Nat) := [(0, .aload_n 0, 1), (1, .getfield 26, 3), (4, .invokevirtual 187, 3), (7, .iconst 0, 1), (8, .istore_n 2, 1), (9, .iload_n 2, 1), (10, .bipush 10, 2), (12, .if_icmp .ge 35, 3), (15, .aload_n 0, 1), (16, .getfield 20, 3), (19, .getfield 162, 3), (22, .iload_n 2, 1), (23, .iaload, 1), (24, .ifCond .eq 17, 3), (27, .aload_n 0, 1), (28, .getfield 26, 3), (31, .iload_n 2, 1), (32, .invokevirtual 236, 3), (35, .iload_n 1, 1), (36, .if_icmp .ne 5, 3), (39, .iload_n 2, 1), (40, .ireturn, 1), (41, .iinc 2 1, 3), (44, .goto (-35), 3), (47, .iconst (-1), 1), (48, .ireturn, 1)]
theorem dtX3_fullest : th_dec cX3_fullest tbX3_fullest = true := by decide +kernel
section
variable {p0 : Program} {l : Launch} {e : Env} {s : State} {m : MethodId} {args : Array Value} {below : List Frame} {meth : Method} {c : Code} {D : va_G} {cI cZ : ClassId} {ad : Nat → Nat} {rr : Int32} {hh : th_H}
set_option maxHeartbeats 4000000 in
set_option maxRecDepth 100000 in
theorem tX3_fullest_c9 (X : th_X p0 s m args meth c D cI cZ ad LC 3 RX3 cX3_fullest (some .int)) : ∀ (n : Nat) (y1 : Int32) (y2 : Int32) (h : th_H), fX3_fullest_c9 n y1 y2 h = some (rr, hh) → th_V p0 l e { frames := 5, cells := 0, slots := 0, locals := 121 } s m args below meth c D cI cZ ad LC 3 (some (.int rr)) hh 9 [.ref 0, .int y1, .int y2] [] h := by
  intro n
  induction n with
  | zero => intro y1 y2 h hf; cases hf
  | succ n ih =>
    intro y1 y2 h hf
    rw [fX3_fullest_c9] at hf
    refine V_iload_n (pc := 9) X (th_da dtX3_fullest 5 rfl) rfl ?_
    refine V_bipush (pc := 10) (v := 10) X (th_da dtX3_fullest 6 rfl) (by decide) ?_
    refine V_icmp_ge (pc := 12) (tgt := 47) X (th_da dtX3_fullest 7 rfl) (by decide) (fun c1 => ?_) (fun c1 => ?_)
    · rw [if_pos c1] at hf
      refine V_aload_n (pc := 15) X (th_da dtX3_fullest 8 rfl) rfl ?_
      refine V_getR (pc := 16) (j := 1) (t := 2) X (th_da dtX3_fullest 9 rfl) wfl_X3_20 iX3 rfl rfl (Nat.le_of_ble_eq_true rfl) rfl ?_
      refine V_getR (pc := 19) (j := 1) (t := 4) X (th_da dtX3_fullest 10 rfl) wfl_X3_162 iX0 rfl rfl (Nat.le_of_ble_eq_true rfl) rfl ?_
      refine V_iload_n (pc := 22) X (th_da dtX3_fullest 11 rfl) rfl ?_
      obtain ⟨v2, e2, g2, hf⟩ := th_rd_some hf
      refine V_iald (pc := 23) X (th_da dtX3_fullest 12 rfl) rfl g2 e2 ?_
      refine V_if_eq (pc := 24) (tgt := 41) X (th_da dtX3_fullest 13 rfl) (by decide) (fun c3 => ?_) (fun c3 => ?_)
      · rw [if_pos c3] at hf
        refine V_iinc (pc := 41) (v := y2 + 1) (ls2 := [.ref 0, .int y1, .int (y2 + 1)]) X (th_da dtX3_fullest 22 rfl) rfl rfl (Nat.le_of_ble_eq_true rfl) rfl rfl ?_
        refine V_goto (pc := 44) (tgt := 9) X (th_da dtX3_fullest 23 rfl) (by decide) ?_
        exact ih _ _ _ hf
      · rw [if_neg c3] at hf
        refine V_aload_n (pc := 27) X (th_da dtX3_fullest 14 rfl) rfl ?_
        refine V_getR (pc := 28) (j := 2) (t := 19) X (th_da dtX3_fullest 15 rfl) wfl_X3_26 iX3 rfl rfl (Nat.le_of_ble_eq_true rfl) rfl ?_
        refine V_iload_n (pc := 31) X (th_da dtX3_fullest 16 rfl) rfl ?_
        obtain ⟨u4, h4, e4, hf⟩ := th_bd_some hf
        refine V_callVi (pc := 32) (q := 19) (As := [.int y2]) X (th_da dtX3_fullest 17 rfl) (mX2_fullnessOf l 19 2 isW_19 _ _ _ _ e4) wcd_X2_fullnessOf wml_X3_236 wim_X2_fullnessOf wse_X2_fullnessOf win_X2_fullnessOf hd_X2_fullnessOf ⟨Nat.le_of_ble_eq_true rfl, Nat.le_of_ble_eq_true rfl⟩ (Nat.le_of_ble_eq_true rfl) rfl rfl rfl ?_
        refine V_iload_n (pc := 35) X (th_da dtX3_fullest 18 rfl) rfl ?_
        refine V_icmp_ne (pc := 36) (tgt := 41) X (th_da dtX3_fullest 19 rfl) (by decide) (fun c5 => ?_) (fun c5 => ?_)
        · rw [if_pos c5] at hf
          refine V_iload_n (pc := 39) X (th_da dtX3_fullest 20 rfl) rfl ?_
          exact V_iretF (pc := 40) X (th_da dtX3_fullest 21 rfl) hf
        · rw [if_neg c5] at hf
          refine V_iinc (pc := 41) (v := y2 + 1) (ls2 := [.ref 0, .int y1, .int (y2 + 1)]) X (th_da dtX3_fullest 22 rfl) rfl rfl (Nat.le_of_ble_eq_true rfl) rfl rfl ?_
          refine V_goto (pc := 44) (tgt := 9) X (th_da dtX3_fullest 23 rfl) (by decide) ?_
          exact ih _ _ _ hf
    · rw [if_neg c1] at hf
      refine V_iconst (pc := 47) (v := (-1)) X (th_da dtX3_fullest 24 rfl) (by decide) ?_
      exact V_iretF (pc := 48) X (th_da dtX3_fullest 25 rfl) hf
set_option maxHeartbeats 4000000 in
set_option maxRecDepth 100000 in
theorem mX3_fullest (l : Launch) (x1 : Int32) (h : th_H) (rr : Int32) (hh : th_H) (hf : fX3_fullest x1 h = some (rr, hh)) : th_MI l LC yX3_fullest cX3_fullest 3 (some .int) 5 121 [.ref 0, .int x1] h (some (.int rr)) hh := by
  refine th_MI_of (ls := [.ref 0, .int x1, .null]) RX3 rfl rfl rfl (Nat.le_of_ble_eq_true rfl) ?_
  intro p0 e s m args below meth c D cI cZ ad X
  unfold fX3_fullest at hf
  refine V_aload_n (pc := 0) X (th_da dtX3_fullest 0 rfl) rfl ?_
  refine V_getR (pc := 1) (j := 2) (t := 19) X (th_da dtX3_fullest 1 rfl) wfl_X3_26 iX3 rfl rfl (Nat.le_of_ble_eq_true rfl) rfl ?_
  obtain ⟨u1, h1, e1, hf⟩ := th_bd_some hf
  refine V_callVv (pc := 4) (q := 19) (As := []) X (th_da dtX3_fullest 2 rfl) (mX2_rise l 19 2 isW_19 _ _ _ e1) wcd_X2_rise wml_X3_187 wim_X2_rise wse_X2_rise win_X2_rise hd_X2_rise ⟨Nat.le_of_ble_eq_true rfl, Nat.le_of_ble_eq_true rfl⟩ (Nat.le_of_ble_eq_true rfl) rfl rfl rfl ?_
  refine V_iconst (pc := 7) (v := 0) X (th_da dtX3_fullest 3 rfl) (by decide) ?_
  refine V_istore_n (pc := 8) (ls2 := [.ref 0, .int x1, .int 0]) X (th_da dtX3_fullest 4 rfl) (Nat.le_of_ble_eq_true rfl) rfl rfl ?_
  exact tX3_fullest_c9 X _ _ _ _ hf
end
def fX3_commonDivisor_c9 : Nat → Int64 → Int64 → Int32 → th_H → Option (Int64 × th_H)
  | 0, _, _, _, _ => none
  | n + 1, y4, y6, y8, h =>
    if (y8 < 200 : Prop) then
      if ((lg_cmp y6 0) = 0 : Prop) then
        some (y4, h)
      else
        th_dw y6 <|
        fX3_commonDivisor_c9 n y6 (th_rml y4 y6) (y8 + 1) h
    else
      some (y4, h)
def fX3_commonDivisor (x0 : Int64) (x2 : Int64) (h : th_H) : Option (Int64 × th_H) :=
  fX3_commonDivisor_c9 1000 x0 x2 0 h
def tbX3_commonDivisor : List (Nat × Instr × Nat) := [(0, .lload_n 0, 1), (1, .lstore 4, 2), (3, .lload_n 2, 1), (4, .lstore 6, 2), (6, .iconst 0, 1), (7, .istore 8, 2), (9, .iload 8, 2), (11, .sipush 200, 3), (14, .if_icmp .ge 31, 3), (17, .lload 6, 2), (19, .lconst 0, 1), (20, .lcmp, 1), (21, .ifCond .eq 24, 3), (24, .lload 4, 2), (26, .lload 6, 2), (28, .lrem, 1), (29, .lstore 9, 2), (31, .lload 6, 2), (33, .lstore 4, 2), (35, .lload 9, 2), (37, .lstore 6, 2), (39, .iinc 8 1, 3), (42, .goto (-33), 3), (45, .lload 4, 2), (47, .lreturn, 1)]
theorem dtX3_commonDivisor : th_dec cX3_commonDivisor tbX3_commonDivisor = true := by decide +kernel
section
variable {p0 : Program} {l : Launch} {e : Env} {s : State} {m : MethodId} {args : Array Value} {below : List Frame} {meth : Method} {c : Code} {D : va_G} {cI cZ : ClassId} {ad : Nat → Nat} {rr : Int64} {hh : th_H}
set_option maxHeartbeats 4000000 in
set_option maxRecDepth 100000 in
theorem tX3_commonDivisor_c9 (X : th_X p0 s m args meth c D cI cZ ad LC 11 RX3 cX3_commonDivisor (some .long)) : ∀ (n : Nat) (y4 : Int64) (y6 : Int64) (y8 : Int32) (h : th_H), fX3_commonDivisor_c9 n y4 y6 y8 h = some (rr, hh) → th_V p0 l e { frames := 0, cells := 0, slots := 0, locals := 0 } s m args below meth c D cI cZ ad LC 11 (some (.long rr)) hh 9 [.null, .null, .null, .null, .long y4, .null, .long y6, .null, .int y8, .null, .null] [] h := by
  intro n
  induction n with
  | zero => intro y4 y6 y8 h hf; cases hf
  | succ n ih =>
    intro y4 y6 y8 h hf
    rw [fX3_commonDivisor_c9] at hf
    refine V_iload (pc := 9) X (th_da dtX3_commonDivisor 6 rfl) rfl ?_
    refine V_sipush (pc := 11) (v := 200) X (th_da dtX3_commonDivisor 7 rfl) (by decide) ?_
    refine V_icmp_ge (pc := 14) (tgt := 45) X (th_da dtX3_commonDivisor 8 rfl) (by decide) (fun c1 => ?_) (fun c1 => ?_)
    · rw [if_pos c1] at hf
      refine V_lload (pc := 17) X (th_da dtX3_commonDivisor 9 rfl) rfl ?_
      refine V_lconst (pc := 19) (v := 0) X (th_da dtX3_commonDivisor 10 rfl) (by decide) ?_
      refine V_lcmp (pc := 20) X (th_da dtX3_commonDivisor 11 rfl) ?_
      refine V_if_eq (pc := 21) (tgt := 45) X (th_da dtX3_commonDivisor 12 rfl) (by decide) (fun c2 => ?_) (fun c2 => ?_)
      · rw [if_pos c2] at hf
        refine V_lload (pc := 45) X (th_da dtX3_commonDivisor 23 rfl) rfl ?_
        exact V_lretF (pc := 47) X (th_da dtX3_commonDivisor 24 rfl) hf
      · rw [if_neg c2] at hf
        refine V_lload (pc := 24) X (th_da dtX3_commonDivisor 13 rfl) rfl ?_
        refine V_lload (pc := 26) X (th_da dtX3_commonDivisor 14 rfl) rfl ?_
        obtain ⟨g3, hf⟩ := th_dw_some hf
        refine V_lrem (pc := 28) X (th_da dtX3_commonDivisor 15 rfl) g3 ?_
        refine V_lstore (pc := 29) (ls2 := [.null, .null, .null, .null, .long y4, .null, .long y6, .null, .int y8, .long (th_rml y4 y6), .null]) X (th_da dtX3_commonDivisor 16 rfl) (Nat.le_of_ble_eq_true rfl) rfl rfl ?_
        refine V_lload (pc := 31) X (th_da dtX3_commonDivisor 17 rfl) rfl ?_
        refine V_lstore (pc := 33) (ls2 := [.null, .null, .null, .null, .long y6, .null, .long y6, .null, .int y8, .long (th_rml y4 y6), .null]) X (th_da dtX3_commonDivisor 18 rfl) (Nat.le_of_ble_eq_true rfl) rfl rfl ?_
        refine V_lload (pc := 35) X (th_da dtX3_commonDivisor 19 rfl) rfl ?_
        refine V_lstore (pc := 37) (ls2 := [.null, .null, .null, .null, .long y6, .null, .long (th_rml y4 y6), .null, .int y8, .long (th_rml y4 y6), .null]) X (th_da dtX3_commonDivisor 20 rfl) (Nat.le_of_ble_eq_true rfl) rfl rfl ?_
        refine V_iinc (pc := 39) (v := y8 + 1) (ls2 := [.null, .null, .null, .null, .long y6, .null, .long (th_rml y4 y6), .null, .int (y8 + 1), .long (th_rml y4 y6), .null]) X (th_da dtX3_commonDivisor 21 rfl) rfl rfl (Nat.le_of_ble_eq_true rfl) rfl rfl ?_
        refine V_goto (pc := 42) (tgt := 9) X (th_da dtX3_commonDivisor 22 rfl) (by decide) ?_
        refine V_mask [false, false, false, false, true, false, true, false, true, false, false] (ls2 := [.null, .null, .null, .null, .long y6, .null, .long (th_rml y4 y6), .null, .int (y8 + 1), .null, .null]) rfl ?_
        exact ih _ _ _ _ hf
    · rw [if_neg c1] at hf
      refine V_lload (pc := 45) X (th_da dtX3_commonDivisor 23 rfl) rfl ?_
      exact V_lretF (pc := 47) X (th_da dtX3_commonDivisor 24 rfl) hf
set_option maxHeartbeats 4000000 in
set_option maxRecDepth 100000 in
theorem mX3_commonDivisor (l : Launch) (x0 : Int64) (x2 : Int64) (h : th_H) (rr : Int64) (hh : th_H) (hf : fX3_commonDivisor x0 x2 h = some (rr, hh)) : th_MI l LC yX3_commonDivisor cX3_commonDivisor 11 (some .long) 0 0 [.long x0, .long x2] h (some (.long rr)) hh := by
  refine th_MI_of (ls := [.long x0, .null, .long x2, .null, .null, .null, .null, .null, .null, .null, .null]) RX3 rfl rfl rfl (Nat.le_of_ble_eq_true rfl) ?_
  intro p0 e s m args below meth c D cI cZ ad X
  unfold fX3_commonDivisor at hf
  refine V_lload_n (pc := 0) X (th_da dtX3_commonDivisor 0 rfl) rfl ?_
  refine V_lstore (pc := 1) (ls2 := [.long x0, .null, .long x2, .null, .long x0, .null, .null, .null, .null, .null, .null]) X (th_da dtX3_commonDivisor 1 rfl) (Nat.le_of_ble_eq_true rfl) rfl rfl ?_
  refine V_lload_n (pc := 3) X (th_da dtX3_commonDivisor 2 rfl) rfl ?_
  refine V_lstore (pc := 4) (ls2 := [.long x0, .null, .long x2, .null, .long x0, .null, .long x2, .null, .null, .null, .null]) X (th_da dtX3_commonDivisor 3 rfl) (Nat.le_of_ble_eq_true rfl) rfl rfl ?_
  refine V_iconst (pc := 6) (v := 0) X (th_da dtX3_commonDivisor 4 rfl) (by decide) ?_
  refine V_istore (pc := 7) (ls2 := [.long x0, .null, .long x2, .null, .long x0, .null, .long x2, .null, .int 0, .null, .null]) X (th_da dtX3_commonDivisor 5 rfl) (Nat.le_of_ble_eq_true rfl) rfl rfl ?_
  refine V_mask [false, false, false, false, true, false, true, false, true, false, false] (ls2 := [.null, .null, .null, .null, .long x0, .null, .long x2, .null, .int 0, .null, .null]) rfl ?_
  exact tX3_commonDivisor_c9 X _ _ _ _ _ hf
end
def fX3_even_c28 : Nat → Int32 → Int64 → Int64 → Int32 → th_H → Option (Int64 × th_H)
  | 0, _, _, _, _, _ => none
  | n + 1, y1, y2, y4, y6, h =>
    if (y6 < 20 : Prop) then
      th_bd (fX0_has 2 y6 h) fun u2 h2 =>
      if (u2 = 0 : Prop) then
        fX3_even_c28 n y1 y2 y4 (y6 + 1) h2
      else
        th_bd (fX2_rateOf 19 2 y6 h2) fun u4 h4 =>
        fX3_even_c28 n y1 (y2 + (Int32.toInt64 u4)) (y4 + ((Int32.toInt64 u4) * (Int32.toInt64 u4))) (y6 + 1) h4
    else
      if ((lg_cmp y2 0) = 0 : Prop) then
        some ((-1), h)
      else
        th_bd (fJ6_bitCount_0f7a4 (h.1 2 7) h) fun u6 h6 =>
        th_bd (fX3_commonDivisor (y2 * y2) ((Int32.toInt64 u6) * y4) h6) fun u7 h7 =>
        if ((lg_cmp u7 1) < 0 : Prop) then
          some ((-1), h7)
        else
          if (y1 = 0 : Prop) then
            th_dw u7 <|
            some ((y2 * y2) / u7, h7)
          else
            th_dw u7 <|
            some (((Int32.toInt64 u6) * y4) / u7, h7)
def fX3_even (x1 : Int32) (h : th_H) : Option (Int64 × th_H) :=
  if (x1 = 0 : Prop) then
    th_bd (fX2_rise 19 2 h) fun _u2 h2 =>
    fX3_even_c28 1000 x1 0 0 0 h2
  else
    if (x1 = 1 : Prop) then
      th_bd (fX2_rise 19 2 h) fun _u4 h4 =>
      fX3_even_c28 1000 x1 0 0 0 h4
    else
      some ((-1), h)
def tbX3_even : List (Nat × Instr × Nat) := [(0, .iload_n 1, 1), (1, .ifCond .eq 12, 3), (4, .iload_n 1, 1), (5, .iconst 1, 1), (6, .if_icmp .eq 7, 3), (9, .ldc2_w 239, 3), (12, .lreturn, 1), (13, .aload_n 0, 1), (14, .getfield 26, 3), (17, .invokevirtual 187, 3), (20, .lconst 0, 1), (21, .lstore_n 2, 1), (22, .lconst 0, 1), (23, .lstore 4, 2), (25, .iconst 0, 1), (26, .istore 6, 2), (28, .iload 6, 2), (30, .bipush 20, 2), (32, .if_icmp .ge 48, 3), (35, .aload_n 0, 1), (36, .getfield 20, 3), (39, .iload 6, 2), (41, .invokevirtual 80, 3), (44, .ifCond .eq 30, 3), (47, .aload_n 0, 1), (48, .getfield 26, 3), (51, .iload 6, 2), (53, .invokevirtual 190, 3), (56, .i2l, 1), (57, .lstore 7, 2), (59, .lload_n 2, 1), (60, .lload 7, 2), (62, .ladd, 1), (63, .lstore_n 2, 1), (64, .lload 4, 2), (66, .lload 7, 2), (68, .lload 7, 2), (70, .lmul, 1), (71, .ladd, 1), (72, .lstore 4, 2), (74, .iinc 6 1, 3), (77, .goto (-49), 3), (80, .lload_n 2, 1), (81, .lconst 0, 1), (82, .lcmp, 1), (83, .ifCond .ne 7, 3), (86, .ldc2_w 239, 3), (89, .lreturn, 1), (90, .lload_n 2, 1), (91, .lload_n 2, 1), (92, .lmul, 1), (93, .lstore 6, 2), (95, .aload_n 0, 1), (96, .getfield 20, 3), (99, .getfield 87, 3), (102, .invokestatic 91, 3), (105, .i2l, 1), (106, .lload 4, 2), (108, .lmul, 1), (109, .lstore 8, 2), (111, .lload 6, 2), (113, .lload 8, 2), (115, .invokestatic 241, 3), (118, .lstore 10, 2), (120, .lload 10, 2), (122, .lconst 1, 1), (123, .lcmp, 1), (124, .ifCond .ge 7, 3), (127, .ldc2_w 239, 3), (130, .lreturn, 1), (131, .iload_n 1, 1), (132, .ifCond .ne 11, 3), (135, .lload 6, 2), (137, .lload 10, 2), (139, .ldiv, 1), (140, .goto 8, 3), (143, .lload 8, 2), (145, .lload 10, 2), (147, .ldiv, 1), (148, .lreturn, 1)]
theorem dtX3_even : th_dec cX3_even tbX3_even = true := by decide +kernel
section
variable {p0 : Program} {l : Launch} {e : Env} {s : State} {m : MethodId} {args : Array Value} {below : List Frame} {meth : Method} {c : Code} {D : va_G} {cI cZ : ClassId} {ad : Nat → Nat} {rr : Int64} {hh : th_H}
set_option maxHeartbeats 4000000 in
set_option maxRecDepth 100000 in
theorem tX3_even_c28 (X : th_X p0 s m args meth c D cI cZ ad LC 12 RX3 cX3_even (some .long)) : ∀ (n : Nat) (y1 : Int32) (y2 : Int64) (y4 : Int64) (y6 : Int32) (h : th_H), fX3_even_c28 n y1 y2 y4 y6 h = some (rr, hh) → th_V p0 l e { frames := 5, cells := 0, slots := 0, locals := 121 } s m args below meth c D cI cZ ad LC 12 (some (.long rr)) hh 28 [.ref 0, .int y1, .long y2, .null, .long y4, .null, .int y6, .null, .null, .null, .null, .null] [] h := by
  intro n
  induction n with
  | zero => intro y1 y2 y4 y6 h hf; cases hf
  | succ n ih =>
    intro y1 y2 y4 y6 h hf
    rw [fX3_even_c28] at hf
    refine V_iload (pc := 28) X (th_da dtX3_even 16 rfl) rfl ?_
    refine V_bipush (pc := 30) (v := 20) X (th_da dtX3_even 17 rfl) (by decide) ?_
    refine V_icmp_ge (pc := 32) (tgt := 80) X (th_da dtX3_even 18 rfl) (by decide) (fun c1 => ?_) (fun c1 => ?_)
    · rw [if_pos c1] at hf
      refine V_aload_n (pc := 35) X (th_da dtX3_even 19 rfl) rfl ?_
      refine V_getR (pc := 36) (j := 1) (t := 2) X (th_da dtX3_even 20 rfl) wfl_X3_20 iX3 rfl rfl (Nat.le_of_ble_eq_true rfl) rfl ?_
      refine V_iload (pc := 39) X (th_da dtX3_even 21 rfl) rfl ?_
      obtain ⟨u2, h2, e2, hf⟩ := th_bd_some hf
      refine V_callVi (pc := 41) (q := 2) (As := [.int y6]) X (th_da dtX3_even 22 rfl) (mX0_has l 2 isP_2 _ _ _ _ e2) wcd_X0_has wml_X3_80 wim_X0_has wse_X0_has win_X0_has hd_X0_has ⟨Nat.le_of_ble_eq_true rfl, Nat.le_of_ble_eq_true rfl⟩ (Nat.le_of_ble_eq_true rfl) rfl rfl rfl ?_
      refine V_if_eq (pc := 44) (tgt := 74) X (th_da dtX3_even 23 rfl) (by decide) (fun c3 => ?_) (fun c3 => ?_)
      · rw [if_pos c3] at hf
        refine V_iinc (pc := 74) (v := y6 + 1) (ls2 := [.ref 0, .int y1, .long y2, .null, .long y4, .null, .int (y6 + 1), .null, .null, .null, .null, .null]) X (th_da dtX3_even 40 rfl) rfl rfl (Nat.le_of_ble_eq_true rfl) rfl rfl ?_
        refine V_goto (pc := 77) (tgt := 28) X (th_da dtX3_even 41 rfl) (by decide) ?_
        exact ih _ _ _ _ _ hf
      · rw [if_neg c3] at hf
        refine V_aload_n (pc := 47) X (th_da dtX3_even 24 rfl) rfl ?_
        refine V_getR (pc := 48) (j := 2) (t := 19) X (th_da dtX3_even 25 rfl) wfl_X3_26 iX3 rfl rfl (Nat.le_of_ble_eq_true rfl) rfl ?_
        refine V_iload (pc := 51) X (th_da dtX3_even 26 rfl) rfl ?_
        obtain ⟨u4, h4, e4, hf⟩ := th_bd_some hf
        refine V_callVi (pc := 53) (q := 19) (As := [.int y6]) X (th_da dtX3_even 27 rfl) (mX2_rateOf l 19 2 isW_19 _ _ _ _ e4) wcd_X2_rateOf wml_X3_190 wim_X2_rateOf wse_X2_rateOf win_X2_rateOf hd_X2_rateOf ⟨Nat.le_of_ble_eq_true rfl, Nat.le_of_ble_eq_true rfl⟩ (Nat.le_of_ble_eq_true rfl) rfl rfl rfl ?_
        refine V_i2l (pc := 56) X (th_da dtX3_even 28 rfl) ?_
        refine V_lstore (pc := 57) (ls2 := [.ref 0, .int y1, .long y2, .null, .long y4, .null, .int y6, .long (Int32.toInt64 u4), .null, .null, .null, .null]) X (th_da dtX3_even 29 rfl) (Nat.le_of_ble_eq_true rfl) rfl rfl ?_
        refine V_lload_n (pc := 59) X (th_da dtX3_even 30 rfl) rfl ?_
        refine V_lload (pc := 60) X (th_da dtX3_even 31 rfl) rfl ?_
        refine V_ladd (pc := 62) X (th_da dtX3_even 32 rfl) ?_
        refine V_lstore_n (pc := 63) (ls2 := [.ref 0, .int y1, .long (y2 + (Int32.toInt64 u4)), .null, .long y4, .null, .int y6, .long (Int32.toInt64 u4), .null, .null, .null, .null]) X (th_da dtX3_even 33 rfl) (Nat.le_of_ble_eq_true rfl) rfl rfl ?_
        refine V_lload (pc := 64) X (th_da dtX3_even 34 rfl) rfl ?_
        refine V_lload (pc := 66) X (th_da dtX3_even 35 rfl) rfl ?_
        refine V_lload (pc := 68) X (th_da dtX3_even 36 rfl) rfl ?_
        refine V_lmul (pc := 70) X (th_da dtX3_even 37 rfl) ?_
        refine V_ladd (pc := 71) X (th_da dtX3_even 38 rfl) ?_
        refine V_lstore (pc := 72) (ls2 := [.ref 0, .int y1, .long (y2 + (Int32.toInt64 u4)), .null, .long (y4 + ((Int32.toInt64 u4) * (Int32.toInt64 u4))), .null, .int y6, .long (Int32.toInt64 u4), .null, .null, .null, .null]) X (th_da dtX3_even 39 rfl) (Nat.le_of_ble_eq_true rfl) rfl rfl ?_
        refine V_iinc (pc := 74) (v := y6 + 1) (ls2 := [.ref 0, .int y1, .long (y2 + (Int32.toInt64 u4)), .null, .long (y4 + ((Int32.toInt64 u4) * (Int32.toInt64 u4))), .null, .int (y6 + 1), .long (Int32.toInt64 u4), .null, .null, .null, .null]) X (th_da dtX3_even 40 rfl) rfl rfl (Nat.le_of_ble_eq_true rfl) rfl rfl ?_
        refine V_goto (pc := 77) (tgt := 28) X (th_da dtX3_even 41 rfl) (by decide) ?_
        refine V_mask [true, true, true, false, true, false, true, false, false, false, false, false] (ls2 := [.ref 0, .int y1, .long (y2 + (Int32.toInt64 u4)), .null, .long (y4 + ((Int32.toInt64 u4) * (Int32.toInt64 u4))), .null, .int (y6 + 1), .null, .null, .null, .null, .null]) rfl ?_
        exact ih _ _ _ _ _ hf
    · rw [if_neg c1] at hf
      refine V_lload_n (pc := 80) X (th_da dtX3_even 42 rfl) rfl ?_
      refine V_lconst (pc := 81) (v := 0) X (th_da dtX3_even 43 rfl) (by decide) ?_
      refine V_lcmp (pc := 82) X (th_da dtX3_even 44 rfl) ?_
      refine V_if_ne (pc := 83) (tgt := 90) X (th_da dtX3_even 45 rfl) (by decide) (fun c5 => ?_) (fun c5 => ?_)
      · rw [if_pos c5] at hf
        refine V_ldc2 (pc := 86) (v := (-1)) X (th_da dtX3_even 46 rfl) wcl_X3_239 ?_
        exact V_lretF (pc := 89) X (th_da dtX3_even 47 rfl) hf
      · rw [if_neg c5] at hf
        refine V_lload_n (pc := 90) X (th_da dtX3_even 48 rfl) rfl ?_
        refine V_lload_n (pc := 91) X (th_da dtX3_even 49 rfl) rfl ?_
        refine V_lmul (pc := 92) X (th_da dtX3_even 50 rfl) ?_
        refine V_lstore (pc := 93) (ls2 := [.ref 0, .int y1, .long y2, .null, .long y4, .null, .long (y2 * y2), .null, .null, .null, .null, .null]) X (th_da dtX3_even 51 rfl) (Nat.le_of_ble_eq_true rfl) rfl rfl ?_
        refine V_aload_n (pc := 95) X (th_da dtX3_even 52 rfl) rfl ?_
        refine V_getR (pc := 96) (j := 1) (t := 2) X (th_da dtX3_even 53 rfl) wfl_X3_20 iX3 rfl rfl (Nat.le_of_ble_eq_true rfl) rfl ?_
        refine V_getI (pc := 99) (j := 7) X (th_da dtX3_even 54 rfl) wfl_X3_87 iX0 rfl rfl (Nat.le_of_ble_eq_true rfl) rfl ?_
        obtain ⟨u6, h6, e6, hf⟩ := th_bd_some hf
        refine V_callSi (pc := 102) (As := [.int (h.1 2 7)]) X (th_da dtX3_even 55 rfl) (mJ6_bitCount_0f7a4 l _ _ _ _ e6) wcd_J6_bitCount_0f7a4 wml_X3_91 wst_J6_bitCount_0f7a4 win_J6_bitCount_0f7a4 hd_J6_bitCount_0f7a4 ⟨Nat.le_of_ble_eq_true rfl, Nat.le_of_ble_eq_true rfl⟩ (Nat.le_of_ble_eq_true rfl) rfl ?_
        refine V_i2l (pc := 105) X (th_da dtX3_even 56 rfl) ?_
        refine V_lload (pc := 106) X (th_da dtX3_even 57 rfl) rfl ?_
        refine V_lmul (pc := 108) X (th_da dtX3_even 58 rfl) ?_
        refine V_lstore (pc := 109) (ls2 := [.ref 0, .int y1, .long y2, .null, .long y4, .null, .long (y2 * y2), .null, .long ((Int32.toInt64 u6) * y4), .null, .null, .null]) X (th_da dtX3_even 59 rfl) (Nat.le_of_ble_eq_true rfl) rfl rfl ?_
        refine V_lload (pc := 111) X (th_da dtX3_even 60 rfl) rfl ?_
        refine V_lload (pc := 113) X (th_da dtX3_even 61 rfl) rfl ?_
        obtain ⟨u7, h7, e7, hf⟩ := th_bd_some hf
        refine V_callSl (pc := 115) (As := [.long (y2 * y2), .long ((Int32.toInt64 u6) * y4)]) X (th_da dtX3_even 62 rfl) (mX3_commonDivisor l _ _ _ _ _ e7) wcd_X3_commonDivisor wml_X3_241 wst_X3_commonDivisor win_X3_commonDivisor hd_X3_commonDivisor ⟨Nat.le_of_ble_eq_true rfl, Nat.le_of_ble_eq_true rfl⟩ (Nat.le_of_ble_eq_true rfl) rfl ?_
        refine V_lstore (pc := 118) (ls2 := [.ref 0, .int y1, .long y2, .null, .long y4, .null, .long (y2 * y2), .null, .long ((Int32.toInt64 u6) * y4), .null, .long u7, .null]) X (th_da dtX3_even 63 rfl) (Nat.le_of_ble_eq_true rfl) rfl rfl ?_
        refine V_lload (pc := 120) X (th_da dtX3_even 64 rfl) rfl ?_
        refine V_lconst (pc := 122) (v := 1) X (th_da dtX3_even 65 rfl) (by decide) ?_
        refine V_lcmp (pc := 123) X (th_da dtX3_even 66 rfl) ?_
        refine V_if_ge (pc := 124) (tgt := 131) X (th_da dtX3_even 67 rfl) (by decide) (fun c8 => ?_) (fun c8 => ?_)
        · rw [if_pos c8] at hf
          refine V_ldc2 (pc := 127) (v := (-1)) X (th_da dtX3_even 68 rfl) wcl_X3_239 ?_
          exact V_lretF (pc := 130) X (th_da dtX3_even 69 rfl) hf
        · rw [if_neg c8] at hf
          refine V_iload_n (pc := 131) X (th_da dtX3_even 70 rfl) rfl ?_
          refine V_if_ne (pc := 132) (tgt := 143) X (th_da dtX3_even 71 rfl) (by decide) (fun c9 => ?_) (fun c9 => ?_)
          · rw [if_pos c9] at hf
            refine V_lload (pc := 135) X (th_da dtX3_even 72 rfl) rfl ?_
            refine V_lload (pc := 137) X (th_da dtX3_even 73 rfl) rfl ?_
            obtain ⟨g10, hf⟩ := th_dw_some hf
            refine V_ldiv (pc := 139) X (th_da dtX3_even 74 rfl) g10 ?_
            refine V_goto (pc := 140) (tgt := 148) X (th_da dtX3_even 75 rfl) (by decide) ?_
            exact V_lretF (pc := 148) X (th_da dtX3_even 79 rfl) hf
          · rw [if_neg c9] at hf
            refine V_lload (pc := 143) X (th_da dtX3_even 76 rfl) rfl ?_
            refine V_lload (pc := 145) X (th_da dtX3_even 77 rfl) rfl ?_
            obtain ⟨g11, hf⟩ := th_dw_some hf
            refine V_ldiv (pc := 147) X (th_da dtX3_even 78 rfl) g11 ?_
            exact V_lretF (pc := 148) X (th_da dtX3_even 79 rfl) hf
set_option maxHeartbeats 4000000 in
set_option maxRecDepth 100000 in
theorem mX3_even (l : Launch) (x1 : Int32) (h : th_H) (rr : Int64) (hh : th_H) (hf : fX3_even x1 h = some (rr, hh)) : th_MI l LC yX3_even cX3_even 12 (some .long) 5 121 [.ref 0, .int x1] h (some (.long rr)) hh := by
  refine th_MI_of (ls := [.ref 0, .int x1, .null, .null, .null, .null, .null, .null, .null, .null, .null, .null]) RX3 rfl rfl rfl (Nat.le_of_ble_eq_true rfl) ?_
  intro p0 e s m args below meth c D cI cZ ad X
  unfold fX3_even at hf
  refine V_iload_n (pc := 0) X (th_da dtX3_even 0 rfl) rfl ?_
  refine V_if_eq (pc := 1) (tgt := 13) X (th_da dtX3_even 1 rfl) (by decide) (fun c1 => ?_) (fun c1 => ?_)
  · rw [if_pos c1] at hf
    refine V_aload_n (pc := 13) X (th_da dtX3_even 7 rfl) rfl ?_
    refine V_getR (pc := 14) (j := 2) (t := 19) X (th_da dtX3_even 8 rfl) wfl_X3_26 iX3 rfl rfl (Nat.le_of_ble_eq_true rfl) rfl ?_
    obtain ⟨u2, h2, e2, hf⟩ := th_bd_some hf
    refine V_callVv (pc := 17) (q := 19) (As := []) X (th_da dtX3_even 9 rfl) (mX2_rise l 19 2 isW_19 _ _ _ e2) wcd_X2_rise wml_X3_187 wim_X2_rise wse_X2_rise win_X2_rise hd_X2_rise ⟨Nat.le_of_ble_eq_true rfl, Nat.le_of_ble_eq_true rfl⟩ (Nat.le_of_ble_eq_true rfl) rfl rfl rfl ?_
    refine V_lconst (pc := 20) (v := 0) X (th_da dtX3_even 10 rfl) (by decide) ?_
    refine V_lstore_n (pc := 21) (ls2 := [.ref 0, .int x1, .long 0, .null, .null, .null, .null, .null, .null, .null, .null, .null]) X (th_da dtX3_even 11 rfl) (Nat.le_of_ble_eq_true rfl) rfl rfl ?_
    refine V_lconst (pc := 22) (v := 0) X (th_da dtX3_even 12 rfl) (by decide) ?_
    refine V_lstore (pc := 23) (ls2 := [.ref 0, .int x1, .long 0, .null, .long 0, .null, .null, .null, .null, .null, .null, .null]) X (th_da dtX3_even 13 rfl) (Nat.le_of_ble_eq_true rfl) rfl rfl ?_
    refine V_iconst (pc := 25) (v := 0) X (th_da dtX3_even 14 rfl) (by decide) ?_
    refine V_istore (pc := 26) (ls2 := [.ref 0, .int x1, .long 0, .null, .long 0, .null, .int 0, .null, .null, .null, .null, .null]) X (th_da dtX3_even 15 rfl) (Nat.le_of_ble_eq_true rfl) rfl rfl ?_
    exact tX3_even_c28 X _ _ _ _ _ _ hf
  · rw [if_neg c1] at hf
    refine V_iload_n (pc := 4) X (th_da dtX3_even 2 rfl) rfl ?_
    refine V_iconst (pc := 5) (v := 1) X (th_da dtX3_even 3 rfl) (by decide) ?_
    refine V_icmp_eq (pc := 6) (tgt := 13) X (th_da dtX3_even 4 rfl) (by decide) (fun c3 => ?_) (fun c3 => ?_)
    · rw [if_pos c3] at hf
      refine V_aload_n (pc := 13) X (th_da dtX3_even 7 rfl) rfl ?_
      refine V_getR (pc := 14) (j := 2) (t := 19) X (th_da dtX3_even 8 rfl) wfl_X3_26 iX3 rfl rfl (Nat.le_of_ble_eq_true rfl) rfl ?_
      obtain ⟨u4, h4, e4, hf⟩ := th_bd_some hf
      refine V_callVv (pc := 17) (q := 19) (As := []) X (th_da dtX3_even 9 rfl) (mX2_rise l 19 2 isW_19 _ _ _ e4) wcd_X2_rise wml_X3_187 wim_X2_rise wse_X2_rise win_X2_rise hd_X2_rise ⟨Nat.le_of_ble_eq_true rfl, Nat.le_of_ble_eq_true rfl⟩ (Nat.le_of_ble_eq_true rfl) rfl rfl rfl ?_
      refine V_lconst (pc := 20) (v := 0) X (th_da dtX3_even 10 rfl) (by decide) ?_
      refine V_lstore_n (pc := 21) (ls2 := [.ref 0, .int x1, .long 0, .null, .null, .null, .null, .null, .null, .null, .null, .null]) X (th_da dtX3_even 11 rfl) (Nat.le_of_ble_eq_true rfl) rfl rfl ?_
      refine V_lconst (pc := 22) (v := 0) X (th_da dtX3_even 12 rfl) (by decide) ?_
      refine V_lstore (pc := 23) (ls2 := [.ref 0, .int x1, .long 0, .null, .long 0, .null, .null, .null, .null, .null, .null, .null]) X (th_da dtX3_even 13 rfl) (Nat.le_of_ble_eq_true rfl) rfl rfl ?_
      refine V_iconst (pc := 25) (v := 0) X (th_da dtX3_even 14 rfl) (by decide) ?_
      refine V_istore (pc := 26) (ls2 := [.ref 0, .int x1, .long 0, .null, .long 0, .null, .int 0, .null, .null, .null, .null, .null]) X (th_da dtX3_even 15 rfl) (Nat.le_of_ble_eq_true rfl) rfl rfl ?_
      exact tX3_even_c28 X _ _ _ _ _ _ hf
    · rw [if_neg c3] at hf
      refine V_ldc2 (pc := 9) (v := (-1)) X (th_da dtX3_even 5 rfl) wcl_X3_239 ?_
      exact V_lretF (pc := 12) X (th_da dtX3_even 6 rfl) hf
end
def fX3_advertised (x1 : Int32) (h : th_H) : Option (Int32 × th_H) :=
  th_bd (fX3_isLink x1 h) fun u1 h1 =>
  if (u1 = 0 : Prop) then
    some ((-1), h1)
  else
    th_bd (fX1_offerOf 1 x1 h1) fun u3 h3 =>
    some (u3, h3)
def tbX3_advertised : List (Nat × Instr × Nat) := [(0, .iload_n 1, 1), (1, .invokestatic 49, 3), (4, .ifCond .eq 14, 3), (7, .aload_n 0, 1), (8, .getfield 12, 3), (11, .iload_n 1, 1), (12, .invokevirtual 245, 3), (15, .goto 4, 3), (18, .iconst (-1), 1), (19, .ireturn, 1)]
theorem dtX3_advertised : th_dec cX3_advertised tbX3_advertised = true := by decide +kernel
section
variable {p0 : Program} {l : Launch} {e : Env} {s : State} {m : MethodId} {args : Array Value} {below : List Frame} {meth : Method} {c : Code} {D : va_G} {cI cZ : ClassId} {ad : Nat → Nat} {rr : Int32} {hh : th_H}
set_option maxHeartbeats 4000000 in
set_option maxRecDepth 100000 in
theorem mX3_advertised (l : Launch) (x1 : Int32) (h : th_H) (rr : Int32) (hh : th_H) (hf : fX3_advertised x1 h = some (rr, hh)) : th_MI l LC yX3_advertised cX3_advertised 2 (some .int) 4 95 [.ref 0, .int x1] h (some (.int rr)) hh := by
  refine th_MI_of (ls := [.ref 0, .int x1]) RX3 rfl rfl rfl (Nat.le_of_ble_eq_true rfl) ?_
  intro p0 e s m args below meth c D cI cZ ad X
  unfold fX3_advertised at hf
  refine V_iload_n (pc := 0) X (th_da dtX3_advertised 0 rfl) rfl ?_
  obtain ⟨u1, h1, e1, hf⟩ := th_bd_some hf
  refine V_callSi (pc := 1) (As := [.int x1]) X (th_da dtX3_advertised 1 rfl) (mX3_isLink l _ _ _ _ e1) wcd_X3_isLink wml_X3_49 wst_X3_isLink win_X3_isLink hd_X3_isLink ⟨Nat.le_of_ble_eq_true rfl, Nat.le_of_ble_eq_true rfl⟩ (Nat.le_of_ble_eq_true rfl) rfl ?_
  refine V_if_eq (pc := 4) (tgt := 18) X (th_da dtX3_advertised 2 rfl) (by decide) (fun c2 => ?_) (fun c2 => ?_)
  · rw [if_pos c2] at hf
    refine V_iconst (pc := 18) (v := (-1)) X (th_da dtX3_advertised 8 rfl) (by decide) ?_
    exact V_iretF (pc := 19) X (th_da dtX3_advertised 9 rfl) hf
  · rw [if_neg c2] at hf
    refine V_aload_n (pc := 7) X (th_da dtX3_advertised 3 rfl) rfl ?_
    refine V_getR (pc := 8) (j := 0) (t := 1) X (th_da dtX3_advertised 4 rfl) wfl_X3_12 iX3 rfl rfl (Nat.le_of_ble_eq_true rfl) rfl ?_
    refine V_iload_n (pc := 11) X (th_da dtX3_advertised 5 rfl) rfl ?_
    obtain ⟨u3, h3, e3, hf⟩ := th_bd_some hf
    refine V_callVi (pc := 12) (q := 1) (As := [.int x1]) X (th_da dtX3_advertised 6 rfl) (mX1_offerOf l 1 isQ_1 _ _ _ _ e3) wcd_X1_offerOf wml_X3_245 wim_X1_offerOf wse_X1_offerOf win_X1_offerOf hd_X1_offerOf ⟨Nat.le_of_ble_eq_true rfl, Nat.le_of_ble_eq_true rfl⟩ (Nat.le_of_ble_eq_true rfl) rfl rfl rfl ?_
    refine V_goto (pc := 15) (tgt := 19) X (th_da dtX3_advertised 7 rfl) (by decide) ?_
    exact V_iretF (pc := 19) X (th_da dtX3_advertised 9 rfl) hf
end
def fX3_pass (x1 : Int32) (x2 : Int32) (h : th_H) : Option (Int32 × th_H) :=
  th_bd (fX3_isLink x1 h) fun u1 h1 =>
  if (u1 = 0 : Prop) then
    some ((-1), h1)
  else
    if (x2 < (-1) : Prop) then
      some ((-1), h1)
    else
      th_bd (fX1_findMarks 1 90 x1 h1) fun u4 h4 =>
      if (x2 = (-1) : Prop) then
        some (u4, h4)
      else
        if (x2 < u4 : Prop) then
          if (x2 < 21 : Prop) then
            th_rd h4 90 21 x2 fun v8 =>
            some (v8, h4)
          else
            some ((-1), h4)
        else
          some ((-1), h4)
def tbX3_pass : List (Nat × Instr × Nat) := [(0, .iload_n 1, 1), (1, .invokestatic 49, 3), (4, .ifCond .eq 8, 3), (7, .iload_n 2, 1), (8, .iconst (-1), 1), (9, .if_icmp .ge 5, 3), (12, .iconst (-1), 1), (13, .ireturn, 1), (14, .aload_n 0, 1), (15, .getfield 12, 3), (18, .iload_n 1, 1), (19, .aload_n 0, 1), (20, .getfield 46, 3), (23, .invokevirtual 248, 3), (26, .istore_n 3, 1), (27, .iload_n 2, 1), (28, .iconst (-1), 1), (29, .if_icmp .ne 5, 3), (32, .iload_n 3, 1), (33, .ireturn, 1), (34, .iload_n 2, 1), (35, .iload_n 3, 1), (36, .if_icmp .ge 21, 3), (39, .iload_n 2, 1), (40, .aload_n 0, 1), (41, .getfield 46, 3), (44, .arraylength, 1), (45, .if_icmp .ge 12, 3), (48, .aload_n 0, 1), (49, .getfield 46, 3), (52, .iload_n 2, 1), (53, .iaload, 1), (54, .goto 4, 3), (57, .iconst (-1), 1), (58, .ireturn, 1)]
theorem dtX3_pass : th_dec cX3_pass tbX3_pass = true := by decide +kernel
section
variable {p0 : Program} {l : Launch} {e : Env} {s : State} {m : MethodId} {args : Array Value} {below : List Frame} {meth : Method} {c : Code} {D : va_G} {cI cZ : ClassId} {ad : Nat → Nat} {rr : Int32} {hh : th_H}
set_option maxHeartbeats 4000000 in
set_option maxRecDepth 100000 in
theorem mX3_pass (l : Launch) (x1 : Int32) (x2 : Int32) (h : th_H) (rr : Int32) (hh : th_H) (hf : fX3_pass x1 x2 h = some (rr, hh)) : th_MI l LC yX3_pass cX3_pass 4 (some .int) 4 98 [.ref 0, .int x1, .int x2] h (some (.int rr)) hh := by
  refine th_MI_of (ls := [.ref 0, .int x1, .int x2, .null]) RX3 rfl rfl rfl (Nat.le_of_ble_eq_true rfl) ?_
  intro p0 e s m args below meth c D cI cZ ad X
  unfold fX3_pass at hf
  refine V_iload_n (pc := 0) X (th_da dtX3_pass 0 rfl) rfl ?_
  obtain ⟨u1, h1, e1, hf⟩ := th_bd_some hf
  refine V_callSi (pc := 1) (As := [.int x1]) X (th_da dtX3_pass 1 rfl) (mX3_isLink l _ _ _ _ e1) wcd_X3_isLink wml_X3_49 wst_X3_isLink win_X3_isLink hd_X3_isLink ⟨Nat.le_of_ble_eq_true rfl, Nat.le_of_ble_eq_true rfl⟩ (Nat.le_of_ble_eq_true rfl) rfl ?_
  refine V_if_eq (pc := 4) (tgt := 12) X (th_da dtX3_pass 2 rfl) (by decide) (fun c2 => ?_) (fun c2 => ?_)
  · rw [if_pos c2] at hf
    refine V_iconst (pc := 12) (v := (-1)) X (th_da dtX3_pass 6 rfl) (by decide) ?_
    exact V_iretF (pc := 13) X (th_da dtX3_pass 7 rfl) hf
  · rw [if_neg c2] at hf
    refine V_iload_n (pc := 7) X (th_da dtX3_pass 3 rfl) rfl ?_
    refine V_iconst (pc := 8) (v := (-1)) X (th_da dtX3_pass 4 rfl) (by decide) ?_
    refine V_icmp_ge (pc := 9) (tgt := 14) X (th_da dtX3_pass 5 rfl) (by decide) (fun c3 => ?_) (fun c3 => ?_)
    · rw [if_pos c3] at hf
      refine V_iconst (pc := 12) (v := (-1)) X (th_da dtX3_pass 6 rfl) (by decide) ?_
      exact V_iretF (pc := 13) X (th_da dtX3_pass 7 rfl) hf
    · rw [if_neg c3] at hf
      refine V_aload_n (pc := 14) X (th_da dtX3_pass 8 rfl) rfl ?_
      refine V_getR (pc := 15) (j := 0) (t := 1) X (th_da dtX3_pass 9 rfl) wfl_X3_12 iX3 rfl rfl (Nat.le_of_ble_eq_true rfl) rfl ?_
      refine V_iload_n (pc := 18) X (th_da dtX3_pass 10 rfl) rfl ?_
      refine V_aload_n (pc := 19) X (th_da dtX3_pass 11 rfl) rfl ?_
      refine V_getR (pc := 20) (j := 10) (t := 90) X (th_da dtX3_pass 12 rfl) wfl_X3_46 iX3 rfl rfl (Nat.le_of_ble_eq_true rfl) rfl ?_
      obtain ⟨u4, h4, e4, hf⟩ := th_bd_some hf
      refine V_callVi (pc := 23) (q := 1) (As := [.int x1, .ref 90]) X (th_da dtX3_pass 13 rfl) (mX1_findMarks l 1 90 isQ_1 rfl _ _ _ _ e4) wcd_X1_findMarks wml_X3_248 wim_X1_findMarks wse_X1_findMarks win_X1_findMarks hd_X1_findMarks ⟨Nat.le_of_ble_eq_true rfl, Nat.le_of_ble_eq_true rfl⟩ (Nat.le_of_ble_eq_true rfl) rfl rfl rfl ?_
      refine V_istore_n (pc := 26) (ls2 := [.ref 0, .int x1, .int x2, .int u4]) X (th_da dtX3_pass 14 rfl) (Nat.le_of_ble_eq_true rfl) rfl rfl ?_
      refine V_iload_n (pc := 27) X (th_da dtX3_pass 15 rfl) rfl ?_
      refine V_iconst (pc := 28) (v := (-1)) X (th_da dtX3_pass 16 rfl) (by decide) ?_
      refine V_icmp_ne (pc := 29) (tgt := 34) X (th_da dtX3_pass 17 rfl) (by decide) (fun c5 => ?_) (fun c5 => ?_)
      · rw [if_pos c5] at hf
        refine V_iload_n (pc := 32) X (th_da dtX3_pass 18 rfl) rfl ?_
        exact V_iretF (pc := 33) X (th_da dtX3_pass 19 rfl) hf
      · rw [if_neg c5] at hf
        refine V_iload_n (pc := 34) X (th_da dtX3_pass 20 rfl) rfl ?_
        refine V_iload_n (pc := 35) X (th_da dtX3_pass 21 rfl) rfl ?_
        refine V_icmp_ge (pc := 36) (tgt := 57) X (th_da dtX3_pass 22 rfl) (by decide) (fun c6 => ?_) (fun c6 => ?_)
        · rw [if_pos c6] at hf
          refine V_iload_n (pc := 39) X (th_da dtX3_pass 23 rfl) rfl ?_
          refine V_aload_n (pc := 40) X (th_da dtX3_pass 24 rfl) rfl ?_
          refine V_getR (pc := 41) (j := 10) (t := 90) X (th_da dtX3_pass 25 rfl) wfl_X3_46 iX3 rfl rfl (Nat.le_of_ble_eq_true rfl) rfl ?_
          refine V_alen (pc := 44) (v := 21) X (th_da dtX3_pass 26 rfl) rfl (by decide) ?_
          refine V_icmp_ge (pc := 45) (tgt := 57) X (th_da dtX3_pass 27 rfl) (by decide) (fun c7 => ?_) (fun c7 => ?_)
          · rw [if_pos c7] at hf
            refine V_aload_n (pc := 48) X (th_da dtX3_pass 28 rfl) rfl ?_
            refine V_getR (pc := 49) (j := 10) (t := 90) X (th_da dtX3_pass 29 rfl) wfl_X3_46 iX3 rfl rfl (Nat.le_of_ble_eq_true rfl) rfl ?_
            refine V_iload_n (pc := 52) X (th_da dtX3_pass 30 rfl) rfl ?_
            obtain ⟨v8, e8, g8, hf⟩ := th_rd_some hf
            refine V_iald (pc := 53) X (th_da dtX3_pass 31 rfl) rfl g8 e8 ?_
            refine V_goto (pc := 54) (tgt := 58) X (th_da dtX3_pass 32 rfl) (by decide) ?_
            exact V_iretF (pc := 58) X (th_da dtX3_pass 34 rfl) hf
          · rw [if_neg c7] at hf
            refine V_iconst (pc := 57) (v := (-1)) X (th_da dtX3_pass 33 rfl) (by decide) ?_
            exact V_iretF (pc := 58) X (th_da dtX3_pass 34 rfl) hf
        · rw [if_neg c6] at hf
          refine V_iconst (pc := 57) (v := (-1)) X (th_da dtX3_pass 33 rfl) (by decide) ?_
          exact V_iretF (pc := 58) X (th_da dtX3_pass 34 rfl) hf
end
def fX3_known (x1 : Int32) (x2 : Int32) (x3 : Int32) (h : th_H) : Option (Int32 × th_H) :=
  th_bd (fX0_has 2 x1 h) fun u1 h1 =>
  if (u1 = 0 : Prop) then
    some ((-1), h1)
  else
    th_bd (fX3_isLink x2 h1) fun u3 h3 =>
    if (u3 = 0 : Prop) then
      some ((-1), h3)
    else
      th_bd (fX0_goesOver 2 x1 x2 h3) fun u5 h5 =>
      if (u5 = 0 : Prop) then
        some ((-1), h5)
      else
        if x3 = 0 then
          th_rd h5 10 200 ((x1 * 10) + x2) fun v8 =>
          some (v8, h5)
        else
        if x3 = 1 then
          th_rd h5 11 200 ((x1 * 10) + x2) fun v10 =>
          some (v10, h5)
        else
        if x3 = 2 then
          th_bd (fX1_isMarked 1 x1 x2 h5) fun u12 h12 =>
          if (u12 = 0 : Prop) then
            some (0, h12)
          else
            some (1, h12)
        else
        some ((-1), h5)
def tbX3_known : List (Nat × Instr × Nat) := [(0, .aload_n 0, 1), (1, .getfield 20, 3), (4, .iload_n 1, 1), (5, .invokevirtual 80, 3), (8, .ifCond .eq 22, 3), (11, .iload_n 2, 1), (12, .invokestatic 49, 3), (15, .ifCond .eq 15, 3), (18, .aload_n 0, 1), (19, .getfield 20, 3), (22, .iload_n 1, 1), (23, .iload_n 2, 1), (24, .invokevirtual 252, 3), (27, .ifCond .ne 5, 3), (30, .iconst (-1), 1), (31, .ireturn, 1), (32, .iload_n 3, 1), (33, .tableswitch 75 0 2 #[27, 42, 57], 27), (60, .aload_n 0, 1), (61, .getfield 12, 3), (64, .getfield 255, 3), (67, .iload_n 1, 1), (68, .bipush 10, 2), (70, .imul, 1), (71, .iload_n 2, 1), (72, .iadd, 1), (73, .iaload, 1), (74, .ireturn, 1), (75, .aload_n 0, 1), (76, .getfield 12, 3), (79, .getfield 258, 3), (82, .iload_n 1, 1), (83, .bipush 10, 2), (85, .imul, 1), (86, .iload_n 2, 1), (87, .iadd, 1), (88, .iaload, 1), (89, .ireturn, 1), (90, .aload_n 0, 1), (91, .getfield 12, 3), (94, .iload_n 1, 1), (95, .iload_n 2, 1), (96, .invokevirtual 261, 3), (99, .ifCond .eq 7, 3), (102, .iconst 1, 1), (103, .goto 4, 3), (106, .iconst 0, 1), (107, .ireturn, 1), (108, .iconst (-1), 1), (109, .ireturn, 1)]
theorem dtX3_known : th_dec cX3_known tbX3_known = true := by decide +kernel
section
variable {p0 : Program} {l : Launch} {e : Env} {s : State} {m : MethodId} {args : Array Value} {below : List Frame} {meth : Method} {c : Code} {D : va_G} {cI cZ : ClassId} {ad : Nat → Nat} {rr : Int32} {hh : th_H}
set_option maxHeartbeats 4000000 in
set_option maxRecDepth 100000 in
theorem mX3_known (l : Launch) (x1 : Int32) (x2 : Int32) (x3 : Int32) (h : th_H) (rr : Int32) (hh : th_H) (hf : fX3_known x1 x2 x3 h = some (rr, hh)) : th_MI l LC yX3_known cX3_known 4 (some .int) 5 117 [.ref 0, .int x1, .int x2, .int x3] h (some (.int rr)) hh := by
  refine th_MI_of (ls := [.ref 0, .int x1, .int x2, .int x3]) RX3 rfl rfl rfl (Nat.le_of_ble_eq_true rfl) ?_
  intro p0 e s m args below meth c D cI cZ ad X
  unfold fX3_known at hf
  refine V_aload_n (pc := 0) X (th_da dtX3_known 0 rfl) rfl ?_
  refine V_getR (pc := 1) (j := 1) (t := 2) X (th_da dtX3_known 1 rfl) wfl_X3_20 iX3 rfl rfl (Nat.le_of_ble_eq_true rfl) rfl ?_
  refine V_iload_n (pc := 4) X (th_da dtX3_known 2 rfl) rfl ?_
  obtain ⟨u1, h1, e1, hf⟩ := th_bd_some hf
  refine V_callVi (pc := 5) (q := 2) (As := [.int x1]) X (th_da dtX3_known 3 rfl) (mX0_has l 2 isP_2 _ _ _ _ e1) wcd_X0_has wml_X3_80 wim_X0_has wse_X0_has win_X0_has hd_X0_has ⟨Nat.le_of_ble_eq_true rfl, Nat.le_of_ble_eq_true rfl⟩ (Nat.le_of_ble_eq_true rfl) rfl rfl rfl ?_
  refine V_if_eq (pc := 8) (tgt := 30) X (th_da dtX3_known 4 rfl) (by decide) (fun c2 => ?_) (fun c2 => ?_)
  · rw [if_pos c2] at hf
    refine V_iconst (pc := 30) (v := (-1)) X (th_da dtX3_known 14 rfl) (by decide) ?_
    exact V_iretF (pc := 31) X (th_da dtX3_known 15 rfl) hf
  · rw [if_neg c2] at hf
    refine V_iload_n (pc := 11) X (th_da dtX3_known 5 rfl) rfl ?_
    obtain ⟨u3, h3, e3, hf⟩ := th_bd_some hf
    refine V_callSi (pc := 12) (As := [.int x2]) X (th_da dtX3_known 6 rfl) (mX3_isLink l _ _ _ _ e3) wcd_X3_isLink wml_X3_49 wst_X3_isLink win_X3_isLink hd_X3_isLink ⟨Nat.le_of_ble_eq_true rfl, Nat.le_of_ble_eq_true rfl⟩ (Nat.le_of_ble_eq_true rfl) rfl ?_
    refine V_if_eq (pc := 15) (tgt := 30) X (th_da dtX3_known 7 rfl) (by decide) (fun c4 => ?_) (fun c4 => ?_)
    · rw [if_pos c4] at hf
      refine V_iconst (pc := 30) (v := (-1)) X (th_da dtX3_known 14 rfl) (by decide) ?_
      exact V_iretF (pc := 31) X (th_da dtX3_known 15 rfl) hf
    · rw [if_neg c4] at hf
      refine V_aload_n (pc := 18) X (th_da dtX3_known 8 rfl) rfl ?_
      refine V_getR (pc := 19) (j := 1) (t := 2) X (th_da dtX3_known 9 rfl) wfl_X3_20 iX3 rfl rfl (Nat.le_of_ble_eq_true rfl) rfl ?_
      refine V_iload_n (pc := 22) X (th_da dtX3_known 10 rfl) rfl ?_
      refine V_iload_n (pc := 23) X (th_da dtX3_known 11 rfl) rfl ?_
      obtain ⟨u5, h5, e5, hf⟩ := th_bd_some hf
      refine V_callVi (pc := 24) (q := 2) (As := [.int x1, .int x2]) X (th_da dtX3_known 12 rfl) (mX0_goesOver l 2 isP_2 _ _ _ _ _ e5) wcd_X0_goesOver wml_X3_252 wim_X0_goesOver wse_X0_goesOver win_X0_goesOver hd_X0_goesOver ⟨Nat.le_of_ble_eq_true rfl, Nat.le_of_ble_eq_true rfl⟩ (Nat.le_of_ble_eq_true rfl) rfl rfl rfl ?_
      refine V_if_ne (pc := 27) (tgt := 32) X (th_da dtX3_known 13 rfl) (by decide) (fun c6 => ?_) (fun c6 => ?_)
      · rw [if_pos c6] at hf
        refine V_iconst (pc := 30) (v := (-1)) X (th_da dtX3_known 14 rfl) (by decide) ?_
        exact V_iretF (pc := 31) X (th_da dtX3_known 15 rfl) hf
      · rw [if_neg c6] at hf
        refine V_iload_n (pc := 32) X (th_da dtX3_known 16 rfl) rfl ?_
        by_cases c7 : x3 = 0
        · rw [if_pos c7] at hf
          refine V_tabIn (pc := 33) (tgt := 60) X (th_da dtX3_known 17 rfl) c7 (by decide) (by decide) rfl (by decide) ?_
          refine V_aload_n (pc := 60) X (th_da dtX3_known 18 rfl) rfl ?_
          refine V_getR (pc := 61) (j := 0) (t := 1) X (th_da dtX3_known 19 rfl) wfl_X3_12 iX3 rfl rfl (Nat.le_of_ble_eq_true rfl) rfl ?_
          refine V_getR (pc := 64) (j := 1) (t := 10) X (th_da dtX3_known 20 rfl) wfl_X3_255 iX1 rfl rfl (Nat.le_of_ble_eq_true rfl) rfl ?_
          refine V_iload_n (pc := 67) X (th_da dtX3_known 21 rfl) rfl ?_
          refine V_bipush (pc := 68) (v := 10) X (th_da dtX3_known 22 rfl) (by decide) ?_
          refine V_imul (pc := 70) X (th_da dtX3_known 23 rfl) ?_
          refine V_iload_n (pc := 71) X (th_da dtX3_known 24 rfl) rfl ?_
          refine V_iadd (pc := 72) X (th_da dtX3_known 25 rfl) ?_
          obtain ⟨v8, e8, g8, hf⟩ := th_rd_some hf
          refine V_iald (pc := 73) X (th_da dtX3_known 26 rfl) rfl g8 e8 ?_
          exact V_iretF (pc := 74) X (th_da dtX3_known 27 rfl) hf
        · rw [if_neg c7] at hf
          by_cases c9 : x3 = 1
          · rw [if_pos c9] at hf
            refine V_tabIn (pc := 33) (tgt := 75) X (th_da dtX3_known 17 rfl) c9 (by decide) (by decide) rfl (by decide) ?_
            refine V_aload_n (pc := 75) X (th_da dtX3_known 28 rfl) rfl ?_
            refine V_getR (pc := 76) (j := 0) (t := 1) X (th_da dtX3_known 29 rfl) wfl_X3_12 iX3 rfl rfl (Nat.le_of_ble_eq_true rfl) rfl ?_
            refine V_getR (pc := 79) (j := 2) (t := 11) X (th_da dtX3_known 30 rfl) wfl_X3_258 iX1 rfl rfl (Nat.le_of_ble_eq_true rfl) rfl ?_
            refine V_iload_n (pc := 82) X (th_da dtX3_known 31 rfl) rfl ?_
            refine V_bipush (pc := 83) (v := 10) X (th_da dtX3_known 32 rfl) (by decide) ?_
            refine V_imul (pc := 85) X (th_da dtX3_known 33 rfl) ?_
            refine V_iload_n (pc := 86) X (th_da dtX3_known 34 rfl) rfl ?_
            refine V_iadd (pc := 87) X (th_da dtX3_known 35 rfl) ?_
            obtain ⟨v10, e10, g10, hf⟩ := th_rd_some hf
            refine V_iald (pc := 88) X (th_da dtX3_known 36 rfl) rfl g10 e10 ?_
            exact V_iretF (pc := 89) X (th_da dtX3_known 37 rfl) hf
          · rw [if_neg c9] at hf
            by_cases c11 : x3 = 2
            · rw [if_pos c11] at hf
              refine V_tabIn (pc := 33) (tgt := 90) X (th_da dtX3_known 17 rfl) c11 (by decide) (by decide) rfl (by decide) ?_
              refine V_aload_n (pc := 90) X (th_da dtX3_known 38 rfl) rfl ?_
              refine V_getR (pc := 91) (j := 0) (t := 1) X (th_da dtX3_known 39 rfl) wfl_X3_12 iX3 rfl rfl (Nat.le_of_ble_eq_true rfl) rfl ?_
              refine V_iload_n (pc := 94) X (th_da dtX3_known 40 rfl) rfl ?_
              refine V_iload_n (pc := 95) X (th_da dtX3_known 41 rfl) rfl ?_
              obtain ⟨u12, h12, e12, hf⟩ := th_bd_some hf
              refine V_callVi (pc := 96) (q := 1) (As := [.int x1, .int x2]) X (th_da dtX3_known 42 rfl) (mX1_isMarked l 1 isQ_1 _ _ _ _ _ e12) wcd_X1_isMarked wml_X3_261 wim_X1_isMarked wse_X1_isMarked win_X1_isMarked hd_X1_isMarked ⟨Nat.le_of_ble_eq_true rfl, Nat.le_of_ble_eq_true rfl⟩ (Nat.le_of_ble_eq_true rfl) rfl rfl rfl ?_
              refine V_if_eq (pc := 99) (tgt := 106) X (th_da dtX3_known 43 rfl) (by decide) (fun c13 => ?_) (fun c13 => ?_)
              · rw [if_pos c13] at hf
                refine V_iconst (pc := 106) (v := 0) X (th_da dtX3_known 46 rfl) (by decide) ?_
                exact V_iretF (pc := 107) X (th_da dtX3_known 47 rfl) hf
              · rw [if_neg c13] at hf
                refine V_iconst (pc := 102) (v := 1) X (th_da dtX3_known 44 rfl) (by decide) ?_
                refine V_goto (pc := 103) (tgt := 107) X (th_da dtX3_known 45 rfl) (by decide) ?_
                exact V_iretF (pc := 107) X (th_da dtX3_known 47 rfl) hf
            · rw [if_neg c11] at hf
              have n7 := lv_neT c7 (show (0 : Int32).toInt = 0 from rfl)
              have n9 := lv_neT c9 (show (1 : Int32).toInt = 1 from rfl)
              have n11 := lv_neT c11 (show (2 : Int32).toInt = 2 from rfl)
              refine V_tabOut (pc := 33) (tgt := 108) X (th_da dtX3_known 17 rfl) (by omega) (by decide) ?_
              refine V_iconst (pc := 108) (v := (-1)) X (th_da dtX3_known 48 rfl) (by decide) ?_
              exact V_iretF (pc := 109) X (th_da dtX3_known 49 rfl) hf
end
def fX3_booked (x1 : Int32) (h : th_H) : Option (Int32 × th_H) :=
  th_bd (fX3_isLink x1 h) fun u1 h1 =>
  if (u1 = 0 : Prop) then
    some ((-1), h1)
  else
    th_bd (fX1_bookedAt 1 x1 h1) fun u3 h3 =>
    some (u3, h3)
def tbX3_booked : List (Nat × Instr × Nat) := [(0, .iload_n 1, 1), (1, .invokestatic 49, 3), (4, .ifCond .eq 14, 3), (7, .aload_n 0, 1), (8, .getfield 12, 3), (11, .iload_n 1, 1), (12, .invokevirtual 264, 3), (15, .goto 4, 3), (18, .iconst (-1), 1), (19, .ireturn, 1)]
theorem dtX3_booked : th_dec cX3_booked tbX3_booked = true := by decide +kernel
section
variable {p0 : Program} {l : Launch} {e : Env} {s : State} {m : MethodId} {args : Array Value} {below : List Frame} {meth : Method} {c : Code} {D : va_G} {cI cZ : ClassId} {ad : Nat → Nat} {rr : Int32} {hh : th_H}
set_option maxHeartbeats 4000000 in
set_option maxRecDepth 100000 in
theorem mX3_booked (l : Launch) (x1 : Int32) (h : th_H) (rr : Int32) (hh : th_H) (hf : fX3_booked x1 h = some (rr, hh)) : th_MI l LC yX3_booked cX3_booked 2 (some .int) 3 66 [.ref 0, .int x1] h (some (.int rr)) hh := by
  refine th_MI_of (ls := [.ref 0, .int x1]) RX3 rfl rfl rfl (Nat.le_of_ble_eq_true rfl) ?_
  intro p0 e s m args below meth c D cI cZ ad X
  unfold fX3_booked at hf
  refine V_iload_n (pc := 0) X (th_da dtX3_booked 0 rfl) rfl ?_
  obtain ⟨u1, h1, e1, hf⟩ := th_bd_some hf
  refine V_callSi (pc := 1) (As := [.int x1]) X (th_da dtX3_booked 1 rfl) (mX3_isLink l _ _ _ _ e1) wcd_X3_isLink wml_X3_49 wst_X3_isLink win_X3_isLink hd_X3_isLink ⟨Nat.le_of_ble_eq_true rfl, Nat.le_of_ble_eq_true rfl⟩ (Nat.le_of_ble_eq_true rfl) rfl ?_
  refine V_if_eq (pc := 4) (tgt := 18) X (th_da dtX3_booked 2 rfl) (by decide) (fun c2 => ?_) (fun c2 => ?_)
  · rw [if_pos c2] at hf
    refine V_iconst (pc := 18) (v := (-1)) X (th_da dtX3_booked 8 rfl) (by decide) ?_
    exact V_iretF (pc := 19) X (th_da dtX3_booked 9 rfl) hf
  · rw [if_neg c2] at hf
    refine V_aload_n (pc := 7) X (th_da dtX3_booked 3 rfl) rfl ?_
    refine V_getR (pc := 8) (j := 0) (t := 1) X (th_da dtX3_booked 4 rfl) wfl_X3_12 iX3 rfl rfl (Nat.le_of_ble_eq_true rfl) rfl ?_
    refine V_iload_n (pc := 11) X (th_da dtX3_booked 5 rfl) rfl ?_
    obtain ⟨u3, h3, e3, hf⟩ := th_bd_some hf
    refine V_callVi (pc := 12) (q := 1) (As := [.int x1]) X (th_da dtX3_booked 6 rfl) (mX1_bookedAt l 1 isQ_1 _ _ _ _ e3) wcd_X1_bookedAt wml_X3_264 wim_X1_bookedAt wse_X1_bookedAt win_X1_bookedAt hd_X1_bookedAt ⟨Nat.le_of_ble_eq_true rfl, Nat.le_of_ble_eq_true rfl⟩ (Nat.le_of_ble_eq_true rfl) rfl rfl rfl ?_
    refine V_goto (pc := 15) (tgt := 19) X (th_da dtX3_booked 7 rfl) (by decide) ?_
    exact V_iretF (pc := 19) X (th_da dtX3_booked 9 rfl) hf
end
def fX3_over (h : th_H) : Option (Int32 × th_H) :=
  th_bd (fX1_overbooked 1 h) fun u1 h1 =>
  some (u1, h1)
def tbX3_over : List (Nat × Instr × Nat) := [(0, .aload_n 0, 1), (1, .getfield 12, 3), (4, .invokevirtual 267, 3), (7, .ireturn, 1)]
theorem dtX3_over : th_dec cX3_over tbX3_over = true := by decide +kernel
section
variable {p0 : Program} {l : Launch} {e : Env} {s : State} {m : MethodId} {args : Array Value} {below : List Frame} {meth : Method} {c : Code} {D : va_G} {cI cZ : ClassId} {ad : Nat → Nat} {rr : Int32} {hh : th_H}
set_option maxHeartbeats 4000000 in
set_option maxRecDepth 100000 in
theorem mX3_over (l : Launch) (h : th_H) (rr : Int32) (hh : th_H) (hf : fX3_over h = some (rr, hh)) : th_MI l LC yX3_over cX3_over 1 (some .int) 4 88 [.ref 0] h (some (.int rr)) hh := by
  refine th_MI_of (ls := [.ref 0]) RX3 rfl rfl rfl (Nat.le_of_ble_eq_true rfl) ?_
  intro p0 e s m args below meth c D cI cZ ad X
  unfold fX3_over at hf
  refine V_aload_n (pc := 0) X (th_da dtX3_over 0 rfl) rfl ?_
  refine V_getR (pc := 1) (j := 0) (t := 1) X (th_da dtX3_over 1 rfl) wfl_X3_12 iX3 rfl rfl (Nat.le_of_ble_eq_true rfl) rfl ?_
  obtain ⟨u1, h1, e1, hf⟩ := th_bd_some hf
  refine V_callVi (pc := 4) (q := 1) (As := []) X (th_da dtX3_over 2 rfl) (mX1_overbooked l 1 isQ_1 _ _ _ e1) wcd_X1_overbooked wml_X3_267 wim_X1_overbooked wse_X1_overbooked win_X1_overbooked hd_X1_overbooked ⟨Nat.le_of_ble_eq_true rfl, Nat.le_of_ble_eq_true rfl⟩ (Nat.le_of_ble_eq_true rfl) rfl rfl rfl ?_
  exact V_iretF (pc := 7) X (th_da dtX3_over 3 rfl) hf
end
def fX3_farFromFair_c12 (q : Nat) : Nat → Int64 → Int32 → th_H → Option (Int64 × th_H)
  | 0, _, _, _ => none
  | n + 1, y2, y4, h =>
    if (y4 < 20 : Prop) then
      th_bd (fX0_has 2 y4 h) fun u2 h2 =>
      if (u2 = 0 : Prop) then
        fX3_farFromFair_c12 q n y2 (y4 + 1) h2
      else
        th_rd h2 (q + 11) 20 y4 fun v4 =>
        th_rd h2 20 20 y4 fun v5 =>
        fX3_farFromFair_c12 q n (y2 + (Int32.toInt64 (th_ab (v4 - v5)))) (y4 + 1) h2
    else
      some (y2, h)
def fX3_farFromFair (q : Nat) (h : th_H) : Option (Int64 × th_H) :=
  th_bd (fX2_rise 19 2 h) fun _u1 h1 =>
  fX3_farFromFair_c12 q 1000 0 0 h1
def tbX3_farFromFair : List (Nat × Instr × Nat) := [(0, .aload_n 0, 1), (1, .getfield 26, 3), (4, .invokevirtual 187, 3), (7, .lconst 0, 1), (8, .lstore_n 2, 1), (9, .iconst 0, 1), (10, .istore 4, 2), (12, .iload 4, 2), (14, .bipush 20, 2), (16, .if_icmp .ge 46, 3), (19, .aload_n 0, 1), (20, .getfield 20, 3), (23, .iload 4, 2), (25, .invokevirtual 80, 3), (28, .ifCond .eq 28, 3), (31, .lload_n 2, 1), (32, .aload_n 1, 1), (33, .getfield 141, 3), (36, .iload 4, 2), (38, .iaload, 1), (39, .aload_n 0, 1), (40, .getfield 26, 3), (43, .getfield 193, 3), (46, .iload 4, 2), (48, .iaload, 1), (49, .isub, 1), (50, .invokestatic 345, 3), (53, .i2l, 1), (54, .ladd, 1), (55, .lstore_n 2, 1), (56, .iinc 4 1, 3), (59, .goto (-47), 3), (62, .lload_n 2, 1), (63, .lreturn, 1)]
theorem dtX3_farFromFair : th_dec cX3_farFromFair tbX3_farFromFair = true := by decide +kernel
section
variable {p0 : Program} {l : Launch} {e : Env} {s : State} {m : MethodId} {args : Array Value} {below : List Frame} {meth : Method} {c : Code} {D : va_G} {cI cZ : ClassId} {ad : Nat → Nat} {rr : Int64} {hh : th_H}
set_option maxHeartbeats 4000000 in
set_option maxRecDepth 100000 in
theorem tX3_farFromFair_c12 (X : th_X p0 s m args meth c D cI cZ ad LC 5 RX3 cX3_farFromFair (some .long)) (q : Nat) (hq : isQ q) : ∀ (n : Nat) (y2 : Int64) (y4 : Int32) (h : th_H), fX3_farFromFair_c12 q n y2 y4 h = some (rr, hh) → th_V p0 l e { frames := 5, cells := 0, slots := 0, locals := 121 } s m args below meth c D cI cZ ad LC 5 (some (.long rr)) hh 12 [.ref 0, .ref q, .long y2, .null, .int y4] [] h := by
  intro n
  induction n with
  | zero => intro y2 y4 h hf; cases hf
  | succ n ih =>
    intro y2 y4 h hf
    rw [fX3_farFromFair_c12] at hf
    refine V_iload (pc := 12) X (th_da dtX3_farFromFair 7 rfl) rfl ?_
    refine V_bipush (pc := 14) (v := 20) X (th_da dtX3_farFromFair 8 rfl) (by decide) ?_
    refine V_icmp_ge (pc := 16) (tgt := 62) X (th_da dtX3_farFromFair 9 rfl) (by decide) (fun c1 => ?_) (fun c1 => ?_)
    · rw [if_pos c1] at hf
      refine V_aload_n (pc := 19) X (th_da dtX3_farFromFair 10 rfl) rfl ?_
      refine V_getR (pc := 20) (j := 1) (t := 2) X (th_da dtX3_farFromFair 11 rfl) wfl_X3_20 iX3 rfl rfl (Nat.le_of_ble_eq_true rfl) rfl ?_
      refine V_iload (pc := 23) X (th_da dtX3_farFromFair 12 rfl) rfl ?_
      obtain ⟨u2, h2, e2, hf⟩ := th_bd_some hf
      refine V_callVi (pc := 25) (q := 2) (As := [.int y4]) X (th_da dtX3_farFromFair 13 rfl) (mX0_has l 2 isP_2 _ _ _ _ e2) wcd_X0_has wml_X3_80 wim_X0_has wse_X0_has win_X0_has hd_X0_has ⟨Nat.le_of_ble_eq_true rfl, Nat.le_of_ble_eq_true rfl⟩ (Nat.le_of_ble_eq_true rfl) rfl rfl rfl ?_
      refine V_if_eq (pc := 28) (tgt := 56) X (th_da dtX3_farFromFair 14 rfl) (by decide) (fun c3 => ?_) (fun c3 => ?_)
      · rw [if_pos c3] at hf
        refine V_iinc (pc := 56) (v := y4 + 1) (ls2 := [.ref 0, .ref q, .long y2, .null, .int (y4 + 1)]) X (th_da dtX3_farFromFair 30 rfl) rfl rfl (Nat.le_of_ble_eq_true rfl) rfl rfl ?_
        refine V_goto (pc := 59) (tgt := 12) X (th_da dtX3_farFromFair 31 rfl) (by decide) ?_
        exact ih _ _ _ hf
      · rw [if_neg c3] at hf
        refine V_lload_n (pc := 31) X (th_da dtX3_farFromFair 15 rfl) rfl ?_
        refine V_aload_n (pc := 32) X (th_da dtX3_farFromFair 16 rfl) rfl ?_
        refine V_getR (pc := 33) (j := 3) (t := (q + 11)) X (th_da dtX3_farFromFair 17 rfl) wfl_X3_141 iX1 rfl (Q_0 hq) (Nat.le_of_ble_eq_true rfl) rfl ?_
        refine V_iload (pc := 36) X (th_da dtX3_farFromFair 18 rfl) rfl ?_
        obtain ⟨v4, e4, g4, hf⟩ := th_rd_some hf
        refine V_iald (pc := 38) X (th_da dtX3_farFromFair 19 rfl) (Q_11 hq) g4 e4 ?_
        refine V_aload_n (pc := 39) X (th_da dtX3_farFromFair 20 rfl) rfl ?_
        refine V_getR (pc := 40) (j := 2) (t := 19) X (th_da dtX3_farFromFair 21 rfl) wfl_X3_26 iX3 rfl rfl (Nat.le_of_ble_eq_true rfl) rfl ?_
        refine V_getR (pc := 43) (j := 1) (t := 20) X (th_da dtX3_farFromFair 22 rfl) wfl_X3_193 iX2 rfl rfl (Nat.le_of_ble_eq_true rfl) rfl ?_
        refine V_iload (pc := 46) X (th_da dtX3_farFromFair 23 rfl) rfl ?_
        obtain ⟨v5, e5, g5, hf⟩ := th_rd_some hf
        refine V_iald (pc := 48) X (th_da dtX3_farFromFair 24 rfl) rfl g5 e5 ?_
        refine V_isub (pc := 49) X (th_da dtX3_farFromFair 25 rfl) ?_
        refine V_mabs (pc := 50) X (th_da dtX3_farFromFair 26 rfl) wml_X3_345 wst_J9_abs_0f7a4 win_J9_abs_0f7a4 wcd_J9_abs_0f7a4 (Nat.le_of_ble_eq_true rfl) (Nat.le_of_ble_eq_true rfl) ?_
        refine V_i2l (pc := 53) X (th_da dtX3_farFromFair 27 rfl) ?_
        refine V_ladd (pc := 54) X (th_da dtX3_farFromFair 28 rfl) ?_
        refine V_lstore_n (pc := 55) (ls2 := [.ref 0, .ref q, .long (y2 + (Int32.toInt64 (th_ab (v4 - v5)))), .null, .int y4]) X (th_da dtX3_farFromFair 29 rfl) (Nat.le_of_ble_eq_true rfl) rfl rfl ?_
        refine V_iinc (pc := 56) (v := y4 + 1) (ls2 := [.ref 0, .ref q, .long (y2 + (Int32.toInt64 (th_ab (v4 - v5)))), .null, .int (y4 + 1)]) X (th_da dtX3_farFromFair 30 rfl) rfl rfl (Nat.le_of_ble_eq_true rfl) rfl rfl ?_
        refine V_goto (pc := 59) (tgt := 12) X (th_da dtX3_farFromFair 31 rfl) (by decide) ?_
        exact ih _ _ _ hf
    · rw [if_neg c1] at hf
      refine V_lload_n (pc := 62) X (th_da dtX3_farFromFair 32 rfl) rfl ?_
      exact V_lretF (pc := 63) X (th_da dtX3_farFromFair 33 rfl) hf
set_option maxHeartbeats 4000000 in
set_option maxRecDepth 100000 in
theorem mX3_farFromFair (l : Launch) (q : Nat) (hq : isQ q) (h : th_H) (rr : Int64) (hh : th_H) (hf : fX3_farFromFair q h = some (rr, hh)) : th_MI l LC yX3_farFromFair cX3_farFromFair 5 (some .long) 5 121 [.ref 0, .ref q] h (some (.long rr)) hh := by
  refine th_MI_of (ls := [.ref 0, .ref q, .null, .null, .null]) RX3 rfl rfl rfl (Nat.le_of_ble_eq_true rfl) ?_
  intro p0 e s m args below meth c D cI cZ ad X
  unfold fX3_farFromFair at hf
  refine V_aload_n (pc := 0) X (th_da dtX3_farFromFair 0 rfl) rfl ?_
  refine V_getR (pc := 1) (j := 2) (t := 19) X (th_da dtX3_farFromFair 1 rfl) wfl_X3_26 iX3 rfl rfl (Nat.le_of_ble_eq_true rfl) rfl ?_
  obtain ⟨u1, h1, e1, hf⟩ := th_bd_some hf
  refine V_callVv (pc := 4) (q := 19) (As := []) X (th_da dtX3_farFromFair 2 rfl) (mX2_rise l 19 2 isW_19 _ _ _ e1) wcd_X2_rise wml_X3_187 wim_X2_rise wse_X2_rise win_X2_rise hd_X2_rise ⟨Nat.le_of_ble_eq_true rfl, Nat.le_of_ble_eq_true rfl⟩ (Nat.le_of_ble_eq_true rfl) rfl rfl rfl ?_
  refine V_lconst (pc := 7) (v := 0) X (th_da dtX3_farFromFair 3 rfl) (by decide) ?_
  refine V_lstore_n (pc := 8) (ls2 := [.ref 0, .ref q, .long 0, .null, .null]) X (th_da dtX3_farFromFair 4 rfl) (Nat.le_of_ble_eq_true rfl) rfl rfl ?_
  refine V_iconst (pc := 9) (v := 0) X (th_da dtX3_farFromFair 5 rfl) (by decide) ?_
  refine V_istore (pc := 10) (ls2 := [.ref 0, .ref q, .long 0, .null, .int 0]) X (th_da dtX3_farFromFair 6 rfl) (Nat.le_of_ble_eq_true rfl) rfl rfl ?_
  exact tX3_farFromFair_c12 X _ hq _ _ _ _ hf
end
def fX3_settling_c68 (y1 : Int32) (y2 : Int32) (y3 : Int32) (y4 : Int32) (h : th_H) : Option (Int32 × th_H) :=
  if (y1 = 0 : Prop) then
    if (y4 = 0 : Prop) then
      some (61, h)
    else
      some (y2, h)
  else
    if (y1 = 1 : Prop) then
      some (y3, h)
    else
      th_bd (fX3_farFromFair 27 h) fun u4 h4 =>
      if ((lg_cmp u4 0) = 0 : Prop) then
        some (1, h4)
      else
        some (0, h4)
def fX3_settling_c29 : Nat → Int32 → Int32 → Int32 → Int32 → th_H → Option (Int32 × th_H)
  | 0, _, _, _, _, _ => none
  | n + 1, y1, y2, y3, y4, h =>
    if (y2 < 60 : Prop) then
      if (y4 = 0 : Prop) then
        th_bd (fX1_goRound 27 h) fun u3 h3 =>
        th_bd (fX1_overbooked 27 h3) fun u4 h4 =>
        if (u4 = 0 : Prop) then
          fX3_settling_c29 n y1 (y2 + 1) y3 u3 h4
        else
          fX3_settling_c29 n y1 (y2 + 1) (y3 + 1) u3 h4
      else
        fX3_settling_c68 y1 y2 y3 y4 h
    else
      fX3_settling_c68 y1 y2 y3 y4 h
def fX3_settling (x1 : Int32) (h : th_H) : Option (Int32 × th_H) :=
  if (x1 < 0 : Prop) then
    some ((-1), h)
  else
    if (2 < x1 : Prop) then
      some ((-1), h)
    else
      th_bd (fX1_copy 27 1 h) fun _u3 h3 =>
      fX3_settling_c29 1000 x1 0 0 0 h3
def tbX3_settling : List (Nat × Instr × Nat) := [(0, .iload_n 1, 1), (1, .ifCond .lt 8, 3), (4, .iload_n 1, 1), (5, .iconst 2, 1), (6, .if_icmp .le 5, 3), (9, .iconst (-1), 1), (10, .ireturn, 1), (11, .aload_n 0, 1), (12, .getfield 30, 3), (15, .aload_n 0, 1), (16, .getfield 12, 3), (19, .invokevirtual 151, 3), (22, .iconst 0, 1), (23, .istore_n 2, 1), (24, .iconst 0, 1), (25, .istore_n 3, 1), (26, .iconst 0, 1), (27, .istore 4, 2), (29, .iload_n 2, 1), (30, .bipush 60, 2), (32, .if_icmp .ge 36, 3), (35, .iload 4, 2), (37, .ifCond .ne 31, 3), (40, .aload_n 0, 1), (41, .getfield 30, 3), (44, .invokevirtual 144, 3), (47, .istore 4, 2), (49, .iinc 2 1, 3), (52, .aload_n 0, 1), (53, .getfield 30, 3), (56, .invokevirtual 267, 3), (59, .ifCond .eq (-30), 3), (62, .iinc 3 1, 3), (65, .goto (-36), 3), (68, .iload_n 1, 1), (69, .ifCond .ne 15, 3), (72, .iload 4, 2), (74, .ifCond .eq 7, 3), (77, .iload_n 2, 1), (78, .goto 5, 3), (81, .bipush 61, 2), (83, .ireturn, 1), (84, .iload_n 1, 1), (85, .iconst 1, 1), (86, .if_icmp .ne 5, 3), (89, .iload_n 3, 1), (90, .ireturn, 1), (91, .aload_n 0, 1), (92, .aload_n 0, 1), (93, .getfield 30, 3), (96, .invokevirtual 270, 3), (99, .lconst 0, 1), (100, .lcmp, 1), (101, .ifCond .ne 7, 3), (104, .iconst 1, 1), (105, .goto 4, 3), (108, .iconst 0, 1), (109, .ireturn, 1)]
theorem dtX3_settling : th_dec cX3_settling tbX3_settling = true := by decide +kernel
section
variable {p0 : Program} {l : Launch} {e : Env} {s : State} {m : MethodId} {args : Array Value} {below : List Frame} {meth : Method} {c : Code} {D : va_G} {cI cZ : ClassId} {ad : Nat → Nat} {rr : Int32} {hh : th_H}
set_option maxHeartbeats 4000000 in
set_option maxRecDepth 100000 in
theorem tX3_settling_c68 (X : th_X p0 s m args meth c D cI cZ ad LC 5 RX3 cX3_settling (some .int)) (y1 : Int32) (y2 : Int32) (y3 : Int32) (y4 : Int32) (h : th_H) (hf : fX3_settling_c68 y1 y2 y3 y4 h = some (rr, hh)) : th_V p0 l e { frames := 6, cells := 0, slots := 0, locals := 145 } s m args below meth c D cI cZ ad LC 5 (some (.int rr)) hh 68 [.ref 0, .int y1, .int y2, .int y3, .int y4] [] h := by
  unfold fX3_settling_c68 at hf
  refine V_iload_n (pc := 68) X (th_da dtX3_settling 34 rfl) rfl ?_
  refine V_if_ne (pc := 69) (tgt := 84) X (th_da dtX3_settling 35 rfl) (by decide) (fun c1 => ?_) (fun c1 => ?_)
  · rw [if_pos c1] at hf
    refine V_iload (pc := 72) X (th_da dtX3_settling 36 rfl) rfl ?_
    refine V_if_eq (pc := 74) (tgt := 81) X (th_da dtX3_settling 37 rfl) (by decide) (fun c2 => ?_) (fun c2 => ?_)
    · rw [if_pos c2] at hf
      refine V_bipush (pc := 81) (v := 61) X (th_da dtX3_settling 40 rfl) (by decide) ?_
      exact V_iretF (pc := 83) X (th_da dtX3_settling 41 rfl) hf
    · rw [if_neg c2] at hf
      refine V_iload_n (pc := 77) X (th_da dtX3_settling 38 rfl) rfl ?_
      refine V_goto (pc := 78) (tgt := 83) X (th_da dtX3_settling 39 rfl) (by decide) ?_
      exact V_iretF (pc := 83) X (th_da dtX3_settling 41 rfl) hf
  · rw [if_neg c1] at hf
    refine V_iload_n (pc := 84) X (th_da dtX3_settling 42 rfl) rfl ?_
    refine V_iconst (pc := 85) (v := 1) X (th_da dtX3_settling 43 rfl) (by decide) ?_
    refine V_icmp_ne (pc := 86) (tgt := 91) X (th_da dtX3_settling 44 rfl) (by decide) (fun c3 => ?_) (fun c3 => ?_)
    · rw [if_pos c3] at hf
      refine V_iload_n (pc := 89) X (th_da dtX3_settling 45 rfl) rfl ?_
      exact V_iretF (pc := 90) X (th_da dtX3_settling 46 rfl) hf
    · rw [if_neg c3] at hf
      refine V_aload_n (pc := 91) X (th_da dtX3_settling 47 rfl) rfl ?_
      refine V_aload_n (pc := 92) X (th_da dtX3_settling 48 rfl) rfl ?_
      refine V_getR (pc := 93) (j := 3) (t := 27) X (th_da dtX3_settling 49 rfl) wfl_X3_30 iX3 rfl rfl (Nat.le_of_ble_eq_true rfl) rfl ?_
      obtain ⟨u4, h4, e4, hf⟩ := th_bd_some hf
      refine V_callVl (pc := 96) (q := 0) (As := [.ref 27]) X (th_da dtX3_settling 50 rfl) (mX3_farFromFair l 27 isQ_27 _ _ _ e4) wcd_X3_farFromFair wml_X3_270 wim_X3_farFromFair wse_X3_farFromFair win_X3_farFromFair hd_X3_farFromFair ⟨Nat.le_of_ble_eq_true rfl, Nat.le_of_ble_eq_true rfl⟩ (Nat.le_of_ble_eq_true rfl) rfl rfl rfl ?_
      refine V_lconst (pc := 99) (v := 0) X (th_da dtX3_settling 51 rfl) (by decide) ?_
      refine V_lcmp (pc := 100) X (th_da dtX3_settling 52 rfl) ?_
      refine V_if_ne (pc := 101) (tgt := 108) X (th_da dtX3_settling 53 rfl) (by decide) (fun c5 => ?_) (fun c5 => ?_)
      · rw [if_pos c5] at hf
        refine V_iconst (pc := 104) (v := 1) X (th_da dtX3_settling 54 rfl) (by decide) ?_
        refine V_goto (pc := 105) (tgt := 109) X (th_da dtX3_settling 55 rfl) (by decide) ?_
        exact V_iretF (pc := 109) X (th_da dtX3_settling 57 rfl) hf
      · rw [if_neg c5] at hf
        refine V_iconst (pc := 108) (v := 0) X (th_da dtX3_settling 56 rfl) (by decide) ?_
        exact V_iretF (pc := 109) X (th_da dtX3_settling 57 rfl) hf
set_option maxHeartbeats 4000000 in
set_option maxRecDepth 100000 in
theorem tX3_settling_c29 (X : th_X p0 s m args meth c D cI cZ ad LC 5 RX3 cX3_settling (some .int)) : ∀ (n : Nat) (y1 : Int32) (y2 : Int32) (y3 : Int32) (y4 : Int32) (h : th_H), fX3_settling_c29 n y1 y2 y3 y4 h = some (rr, hh) → th_V p0 l e { frames := 6, cells := 0, slots := 0, locals := 145 } s m args below meth c D cI cZ ad LC 5 (some (.int rr)) hh 29 [.ref 0, .int y1, .int y2, .int y3, .int y4] [] h := by
  intro n
  induction n with
  | zero => intro y1 y2 y3 y4 h hf; cases hf
  | succ n ih =>
    intro y1 y2 y3 y4 h hf
    rw [fX3_settling_c29] at hf
    refine V_iload_n (pc := 29) X (th_da dtX3_settling 18 rfl) rfl ?_
    refine V_bipush (pc := 30) (v := 60) X (th_da dtX3_settling 19 rfl) (by decide) ?_
    refine V_icmp_ge (pc := 32) (tgt := 68) X (th_da dtX3_settling 20 rfl) (by decide) (fun c1 => ?_) (fun c1 => ?_)
    · rw [if_pos c1] at hf
      refine V_iload (pc := 35) X (th_da dtX3_settling 21 rfl) rfl ?_
      refine V_if_ne (pc := 37) (tgt := 68) X (th_da dtX3_settling 22 rfl) (by decide) (fun c2 => ?_) (fun c2 => ?_)
      · rw [if_pos c2] at hf
        refine V_aload_n (pc := 40) X (th_da dtX3_settling 23 rfl) rfl ?_
        refine V_getR (pc := 41) (j := 3) (t := 27) X (th_da dtX3_settling 24 rfl) wfl_X3_30 iX3 rfl rfl (Nat.le_of_ble_eq_true rfl) rfl ?_
        obtain ⟨u3, h3, e3, hf⟩ := th_bd_some hf
        refine V_callVi (pc := 44) (q := 27) (As := []) X (th_da dtX3_settling 25 rfl) (mX1_goRound l 27 isQ_27 _ _ _ e3) wcd_X1_goRound wml_X3_144 wim_X1_goRound wse_X1_goRound win_X1_goRound hd_X1_goRound ⟨Nat.le_of_ble_eq_true rfl, Nat.le_of_ble_eq_true rfl⟩ (Nat.le_of_ble_eq_true rfl) rfl rfl rfl ?_
        refine V_istore (pc := 47) (ls2 := [.ref 0, .int y1, .int y2, .int y3, .int u3]) X (th_da dtX3_settling 26 rfl) (Nat.le_of_ble_eq_true rfl) rfl rfl ?_
        refine V_iinc (pc := 49) (v := y2 + 1) (ls2 := [.ref 0, .int y1, .int (y2 + 1), .int y3, .int u3]) X (th_da dtX3_settling 27 rfl) rfl rfl (Nat.le_of_ble_eq_true rfl) rfl rfl ?_
        refine V_aload_n (pc := 52) X (th_da dtX3_settling 28 rfl) rfl ?_
        refine V_getR (pc := 53) (j := 3) (t := 27) X (th_da dtX3_settling 29 rfl) wfl_X3_30 iX3 rfl rfl (Nat.le_of_ble_eq_true rfl) rfl ?_
        obtain ⟨u4, h4, e4, hf⟩ := th_bd_some hf
        refine V_callVi (pc := 56) (q := 27) (As := []) X (th_da dtX3_settling 30 rfl) (mX1_overbooked l 27 isQ_27 _ _ _ e4) wcd_X1_overbooked wml_X3_267 wim_X1_overbooked wse_X1_overbooked win_X1_overbooked hd_X1_overbooked ⟨Nat.le_of_ble_eq_true rfl, Nat.le_of_ble_eq_true rfl⟩ (Nat.le_of_ble_eq_true rfl) rfl rfl rfl ?_
        refine V_if_eq (pc := 59) (tgt := 29) X (th_da dtX3_settling 31 rfl) (by decide) (fun c5 => ?_) (fun c5 => ?_)
        · rw [if_pos c5] at hf
          exact ih _ _ _ _ _ hf
        · rw [if_neg c5] at hf
          refine V_iinc (pc := 62) (v := y3 + 1) (ls2 := [.ref 0, .int y1, .int (y2 + 1), .int (y3 + 1), .int u3]) X (th_da dtX3_settling 32 rfl) rfl rfl (Nat.le_of_ble_eq_true rfl) rfl rfl ?_
          refine V_goto (pc := 65) (tgt := 29) X (th_da dtX3_settling 33 rfl) (by decide) ?_
          exact ih _ _ _ _ _ hf
      · rw [if_neg c2] at hf
        exact tX3_settling_c68 X _ _ _ _ _ hf
    · rw [if_neg c1] at hf
      exact tX3_settling_c68 X _ _ _ _ _ hf
set_option maxHeartbeats 4000000 in
set_option maxRecDepth 100000 in
theorem mX3_settling (l : Launch) (x1 : Int32) (h : th_H) (rr : Int32) (hh : th_H) (hf : fX3_settling x1 h = some (rr, hh)) : th_MI l LC yX3_settling cX3_settling 5 (some .int) 6 145 [.ref 0, .int x1] h (some (.int rr)) hh := by
  refine th_MI_of (ls := [.ref 0, .int x1, .null, .null, .null]) RX3 rfl rfl rfl (Nat.le_of_ble_eq_true rfl) ?_
  intro p0 e s m args below meth c D cI cZ ad X
  unfold fX3_settling at hf
  refine V_iload_n (pc := 0) X (th_da dtX3_settling 0 rfl) rfl ?_
  refine V_if_lt (pc := 1) (tgt := 9) X (th_da dtX3_settling 1 rfl) (by decide) (fun c1 => ?_) (fun c1 => ?_)
  · rw [if_pos c1] at hf
    refine V_iconst (pc := 9) (v := (-1)) X (th_da dtX3_settling 5 rfl) (by decide) ?_
    exact V_iretF (pc := 10) X (th_da dtX3_settling 6 rfl) hf
  · rw [if_neg c1] at hf
    refine V_iload_n (pc := 4) X (th_da dtX3_settling 2 rfl) rfl ?_
    refine V_iconst (pc := 5) (v := 2) X (th_da dtX3_settling 3 rfl) (by decide) ?_
    refine V_icmp_le (pc := 6) (tgt := 11) X (th_da dtX3_settling 4 rfl) (by decide) (fun c2 => ?_) (fun c2 => ?_)
    · rw [if_pos c2] at hf
      refine V_iconst (pc := 9) (v := (-1)) X (th_da dtX3_settling 5 rfl) (by decide) ?_
      exact V_iretF (pc := 10) X (th_da dtX3_settling 6 rfl) hf
    · rw [if_neg c2] at hf
      refine V_aload_n (pc := 11) X (th_da dtX3_settling 7 rfl) rfl ?_
      refine V_getR (pc := 12) (j := 3) (t := 27) X (th_da dtX3_settling 8 rfl) wfl_X3_30 iX3 rfl rfl (Nat.le_of_ble_eq_true rfl) rfl ?_
      refine V_aload_n (pc := 15) X (th_da dtX3_settling 9 rfl) rfl ?_
      refine V_getR (pc := 16) (j := 0) (t := 1) X (th_da dtX3_settling 10 rfl) wfl_X3_12 iX3 rfl rfl (Nat.le_of_ble_eq_true rfl) rfl ?_
      obtain ⟨u3, h3, e3, hf⟩ := th_bd_some hf
      refine V_callVv (pc := 19) (q := 27) (As := [.ref 1]) X (th_da dtX3_settling 11 rfl) (mX1_copy l 27 1 isQ_27 isQ_1 _ _ _ e3) wcd_X1_copy wml_X3_151 wim_X1_copy wse_X1_copy win_X1_copy hd_X1_copy ⟨Nat.le_of_ble_eq_true rfl, Nat.le_of_ble_eq_true rfl⟩ (Nat.le_of_ble_eq_true rfl) rfl rfl rfl ?_
      refine V_iconst (pc := 22) (v := 0) X (th_da dtX3_settling 12 rfl) (by decide) ?_
      refine V_istore_n (pc := 23) (ls2 := [.ref 0, .int x1, .int 0, .null, .null]) X (th_da dtX3_settling 13 rfl) (Nat.le_of_ble_eq_true rfl) rfl rfl ?_
      refine V_iconst (pc := 24) (v := 0) X (th_da dtX3_settling 14 rfl) (by decide) ?_
      refine V_istore_n (pc := 25) (ls2 := [.ref 0, .int x1, .int 0, .int 0, .null]) X (th_da dtX3_settling 15 rfl) (Nat.le_of_ble_eq_true rfl) rfl rfl ?_
      refine V_iconst (pc := 26) (v := 0) X (th_da dtX3_settling 16 rfl) (by decide) ?_
      refine V_istore (pc := 27) (ls2 := [.ref 0, .int x1, .int 0, .int 0, .int 0]) X (th_da dtX3_settling 17 rfl) (Nat.le_of_ble_eq_true rfl) rfl rfl ?_
      exact tX3_settling_c29 X _ _ _ _ _ _ hf
end
def fX3_isPaperRounds (x0 : Int32) (h : th_H) : Option (Int32 × th_H) :=
  if (x0 < 1 : Prop) then
    some (0, h)
  else
    if (60 < x0 : Prop) then
      some (0, h)
    else
      some (1, h)
def tbX3_isPaperRounds : List (Nat × Instr × Nat) := [(0, .iload_n 0, 1), (1, .iconst 1, 1), (2, .if_icmp .lt 13, 3), (5, .iload_n 0, 1), (6, .bipush 60, 2), (8, .if_icmp .gt 7, 3), (11, .iconst 1, 1), (12, .goto 4, 3), (15, .iconst 0, 1), (16, .ireturn, 1)]
theorem dtX3_isPaperRounds : th_dec cX3_isPaperRounds tbX3_isPaperRounds = true := by decide +kernel
section
variable {p0 : Program} {l : Launch} {e : Env} {s : State} {m : MethodId} {args : Array Value} {below : List Frame} {meth : Method} {c : Code} {D : va_G} {cI cZ : ClassId} {ad : Nat → Nat} {rr : Int32} {hh : th_H}
set_option maxHeartbeats 4000000 in
set_option maxRecDepth 100000 in
theorem mX3_isPaperRounds (l : Launch) (x0 : Int32) (h : th_H) (rr : Int32) (hh : th_H) (hf : fX3_isPaperRounds x0 h = some (rr, hh)) : th_MI l LC yX3_isPaperRounds cX3_isPaperRounds 1 (some .boolean) 0 0 [.int x0] h (some (.int rr)) hh := by
  refine th_MI_of (ls := [.int x0]) RX3 rfl rfl rfl (Nat.le_of_ble_eq_true rfl) ?_
  intro p0 e s m args below meth c D cI cZ ad X
  unfold fX3_isPaperRounds at hf
  refine V_iload_n (pc := 0) X (th_da dtX3_isPaperRounds 0 rfl) rfl ?_
  refine V_iconst (pc := 1) (v := 1) X (th_da dtX3_isPaperRounds 1 rfl) (by decide) ?_
  refine V_icmp_lt (pc := 2) (tgt := 15) X (th_da dtX3_isPaperRounds 2 rfl) (by decide) (fun c1 => ?_) (fun c1 => ?_)
  · rw [if_pos c1] at hf
    refine V_iconst (pc := 15) (v := 0) X (th_da dtX3_isPaperRounds 8 rfl) (by decide) ?_
    exact V_zretF (pc := 16) X (th_da dtX3_isPaperRounds 9 rfl) (Or.inl rfl) hf
  · rw [if_neg c1] at hf
    refine V_iload_n (pc := 5) X (th_da dtX3_isPaperRounds 3 rfl) rfl ?_
    refine V_bipush (pc := 6) (v := 60) X (th_da dtX3_isPaperRounds 4 rfl) (by decide) ?_
    refine V_icmp_gt (pc := 8) (tgt := 15) X (th_da dtX3_isPaperRounds 5 rfl) (by decide) (fun c2 => ?_) (fun c2 => ?_)
    · rw [if_pos c2] at hf
      refine V_iconst (pc := 15) (v := 0) X (th_da dtX3_isPaperRounds 8 rfl) (by decide) ?_
      exact V_zretF (pc := 16) X (th_da dtX3_isPaperRounds 9 rfl) (Or.inl rfl) hf
    · rw [if_neg c2] at hf
      refine V_iconst (pc := 11) (v := 1) X (th_da dtX3_isPaperRounds 6 rfl) (by decide) ?_
      refine V_goto (pc := 12) (tgt := 16) X (th_da dtX3_isPaperRounds 7 rfl) (by decide) ?_
      exact V_zretF (pc := 16) X (th_da dtX3_isPaperRounds 9 rfl) (Or.inr rfl) hf
end
def fX3_swings_c54 : Nat → Int32 → Int32 → Int32 → Int32 → Int32 → Int32 → Int32 → th_H → Option (Int32 × th_H)
  | 0, _, _, _, _, _, _, _, _ => none
  | n + 1, y1, y2, y3, y4, y5, y6, y7, h =>
    if (y7 < y2 : Prop) then
      th_rd h 38 20 y1 fun v2 =>
      th_bd (fX1_goRound 27 h) fun u3 h3 =>
      th_rd h3 38 20 y1 fun v4 =>
      if (v4 = v2 : Prop) then
        fX3_swings_c54 n y1 y2 y3 (y4 + 0) (th_mx y5 v4) (th_mn y6 v4) (y7 + 1) h3
      else
        fX3_swings_c54 n y1 y2 y3 (y4 + 1) (th_mx y5 v4) (th_mn y6 v4) (y7 + 1) h3
    else
      if (y3 = 0 : Prop) then
        some (y4, h)
      else
        if (y3 = 1 : Prop) then
          some (y5, h)
        else
          some (y6, h)
def fX3_swings (x1 : Int32) (x2 : Int32) (x3 : Int32) (h : th_H) : Option (Int32 × th_H) :=
  th_bd (fX0_has 2 x1 h) fun u1 h1 =>
  if (u1 = 0 : Prop) then
    some ((-1), h1)
  else
    th_bd (fX3_isPaperRounds x2 h1) fun u3 h3 =>
    if (u3 = 0 : Prop) then
      some ((-1), h3)
    else
      if (x3 < 0 : Prop) then
        some ((-1), h3)
      else
        if (2 < x3 : Prop) then
          some ((-1), h3)
        else
          th_bd (fX1_copy 27 1 h3) fun _u7 h7 =>
          fX3_swings_c54 1000 x1 x2 x3 0 0 1000000 0 h7
def tbX3_swings : List (Nat × Instr × Nat) := [(0, .aload_n 0, 1), (1, .getfield 20, 3), (4, .iload_n 1, 1), (5, .invokevirtual 80, 3), (8, .ifCond .eq 19, 3), (11, .iload_n 2, 1), (12, .invokestatic 274, 3), (15, .ifCond .eq 12, 3), (18, .iload_n 3, 1), (19, .ifCond .lt 8, 3), (22, .iload_n 3, 1), (23, .iconst 2, 1), (24, .if_icmp .le 5, 3), (27, .iconst (-1), 1), (28, .ireturn, 1), (29, .aload_n 0, 1), (30, .getfield 30, 3), (33, .aload_n 0, 1), (34, .getfield 12, 3), (37, .invokevirtual 151, 3), (40, .iconst 0, 1), (41, .istore 4, 2), (43, .iconst 0, 1), (44, .istore 5, 2), (46, .ldc_w 277, 3), (49, .istore 6, 2), (51, .iconst 0, 1), (52, .istore 7, 2), (54, .iload 7, 2), (56, .iload_n 2, 1), (57, .if_icmp .ge 74, 3), (60, .aload_n 0, 1), (61, .getfield 30, 3), (64, .getfield 141, 3), (67, .iload_n 1, 1), (68, .iaload, 1), (69, .istore 8, 2), (71, .aload_n 0, 1), (72, .getfield 30, 3), (75, .invokevirtual 144, 3), (78, .pop, 1), (79, .aload_n 0, 1), (80, .getfield 30, 3), (83, .getfield 141, 3), (86, .iload_n 1, 1), (87, .iaload, 1), (88, .istore 9, 2), (90, .iload 4, 2), (92, .iload 9, 2), (94, .iload 8, 2), (96, .if_icmp .eq 7, 3), (99, .iconst 1, 1), (100, .goto 4, 3), (103, .iconst 0, 1), (104, .iadd, 1), (105, .istore 4, 2), (107, .iload 5, 2), (109, .iload 9, 2), (111, .invokestatic 278, 3), (114, .istore 5, 2), (116, .iload 6, 2), (118, .iload 9, 2), (120, .invokestatic 283, 3), (123, .istore 6, 2), (125, .iinc 7 1, 3), (128, .goto (-74), 3), (131, .iload_n 3, 1), (132, .ifCond .ne 6, 3), (135, .iload 4, 2), (137, .ireturn, 1), (138, .iload_n 3, 1), (139, .iconst 1, 1), (140, .if_icmp .ne 8, 3), (143, .iload 5, 2), (145, .goto 5, 3), (148, .iload 6, 2), (150, .ireturn, 1)]
theorem dtX3_swings : th_dec cX3_swings tbX3_swings = true := by decide +kernel
section
variable {p0 : Program} {l : Launch} {e : Env} {s : State} {m : MethodId} {args : Array Value} {below : List Frame} {meth : Method} {c : Code} {D : va_G} {cI cZ : ClassId} {ad : Nat → Nat} {rr : Int32} {hh : th_H}
set_option maxHeartbeats 4000000 in
set_option maxRecDepth 100000 in
theorem tX3_swings_c54 (X : th_X p0 s m args meth c D cI cZ ad LC 10 RX3 cX3_swings (some .int)) : ∀ (n : Nat) (y1 : Int32) (y2 : Int32) (y3 : Int32) (y4 : Int32) (y5 : Int32) (y6 : Int32) (y7 : Int32) (h : th_H), fX3_swings_c54 n y1 y2 y3 y4 y5 y6 y7 h = some (rr, hh) → th_V p0 l e { frames := 6, cells := 0, slots := 0, locals := 140 } s m args below meth c D cI cZ ad LC 10 (some (.int rr)) hh 54 [.ref 0, .int y1, .int y2, .int y3, .int y4, .int y5, .int y6, .int y7, .null, .null] [] h := by
  intro n
  induction n with
  | zero => intro y1 y2 y3 y4 y5 y6 y7 h hf; cases hf
  | succ n ih =>
    intro y1 y2 y3 y4 y5 y6 y7 h hf
    rw [fX3_swings_c54] at hf
    refine V_iload (pc := 54) X (th_da dtX3_swings 28 rfl) rfl ?_
    refine V_iload_n (pc := 56) X (th_da dtX3_swings 29 rfl) rfl ?_
    refine V_icmp_ge (pc := 57) (tgt := 131) X (th_da dtX3_swings 30 rfl) (by decide) (fun c1 => ?_) (fun c1 => ?_)
    · rw [if_pos c1] at hf
      refine V_aload_n (pc := 60) X (th_da dtX3_swings 31 rfl) rfl ?_
      refine V_getR (pc := 61) (j := 3) (t := 27) X (th_da dtX3_swings 32 rfl) wfl_X3_30 iX3 rfl rfl (Nat.le_of_ble_eq_true rfl) rfl ?_
      refine V_getR (pc := 64) (j := 3) (t := 38) X (th_da dtX3_swings 33 rfl) wfl_X3_141 iX1 rfl rfl (Nat.le_of_ble_eq_true rfl) rfl ?_
      refine V_iload_n (pc := 67) X (th_da dtX3_swings 34 rfl) rfl ?_
      obtain ⟨v2, e2, g2, hf⟩ := th_rd_some hf
      refine V_iald (pc := 68) X (th_da dtX3_swings 35 rfl) rfl g2 e2 ?_
      refine V_istore (pc := 69) (ls2 := [.ref 0, .int y1, .int y2, .int y3, .int y4, .int y5, .int y6, .int y7, .int v2, .null]) X (th_da dtX3_swings 36 rfl) (Nat.le_of_ble_eq_true rfl) rfl rfl ?_
      refine V_aload_n (pc := 71) X (th_da dtX3_swings 37 rfl) rfl ?_
      refine V_getR (pc := 72) (j := 3) (t := 27) X (th_da dtX3_swings 38 rfl) wfl_X3_30 iX3 rfl rfl (Nat.le_of_ble_eq_true rfl) rfl ?_
      obtain ⟨u3, h3, e3, hf⟩ := th_bd_some hf
      refine V_callVi (pc := 75) (q := 27) (As := []) X (th_da dtX3_swings 39 rfl) (mX1_goRound l 27 isQ_27 _ _ _ e3) wcd_X1_goRound wml_X3_144 wim_X1_goRound wse_X1_goRound win_X1_goRound hd_X1_goRound ⟨Nat.le_of_ble_eq_true rfl, Nat.le_of_ble_eq_true rfl⟩ (Nat.le_of_ble_eq_true rfl) rfl rfl rfl ?_
      refine V_pop (pc := 78) X (th_da dtX3_swings 40 rfl) rfl ?_
      refine V_aload_n (pc := 79) X (th_da dtX3_swings 41 rfl) rfl ?_
      refine V_getR (pc := 80) (j := 3) (t := 27) X (th_da dtX3_swings 42 rfl) wfl_X3_30 iX3 rfl rfl (Nat.le_of_ble_eq_true rfl) rfl ?_
      refine V_getR (pc := 83) (j := 3) (t := 38) X (th_da dtX3_swings 43 rfl) wfl_X3_141 iX1 rfl rfl (Nat.le_of_ble_eq_true rfl) rfl ?_
      refine V_iload_n (pc := 86) X (th_da dtX3_swings 44 rfl) rfl ?_
      obtain ⟨v4, e4, g4, hf⟩ := th_rd_some hf
      refine V_iald (pc := 87) X (th_da dtX3_swings 45 rfl) rfl g4 e4 ?_
      refine V_istore (pc := 88) (ls2 := [.ref 0, .int y1, .int y2, .int y3, .int y4, .int y5, .int y6, .int y7, .int v2, .int v4]) X (th_da dtX3_swings 46 rfl) (Nat.le_of_ble_eq_true rfl) rfl rfl ?_
      refine V_iload (pc := 90) X (th_da dtX3_swings 47 rfl) rfl ?_
      refine V_iload (pc := 92) X (th_da dtX3_swings 48 rfl) rfl ?_
      refine V_iload (pc := 94) X (th_da dtX3_swings 49 rfl) rfl ?_
      refine V_icmp_eq (pc := 96) (tgt := 103) X (th_da dtX3_swings 50 rfl) (by decide) (fun c5 => ?_) (fun c5 => ?_)
      · rw [if_pos c5] at hf
        refine V_iconst (pc := 103) (v := 0) X (th_da dtX3_swings 53 rfl) (by decide) ?_
        refine V_iadd (pc := 104) X (th_da dtX3_swings 54 rfl) ?_
        refine V_istore (pc := 105) (ls2 := [.ref 0, .int y1, .int y2, .int y3, .int (y4 + 0), .int y5, .int y6, .int y7, .int v2, .int v4]) X (th_da dtX3_swings 55 rfl) (Nat.le_of_ble_eq_true rfl) rfl rfl ?_
        refine V_iload (pc := 107) X (th_da dtX3_swings 56 rfl) rfl ?_
        refine V_iload (pc := 109) X (th_da dtX3_swings 57 rfl) rfl ?_
        refine V_mmax (pc := 111) X (th_da dtX3_swings 58 rfl) wml_X3_278 wst_J9_max_7cf53 win_J9_max_7cf53 wcd_J9_max_7cf53 (Nat.le_of_ble_eq_true rfl) (Nat.le_of_ble_eq_true rfl) ?_
        refine V_istore (pc := 114) (ls2 := [.ref 0, .int y1, .int y2, .int y3, .int (y4 + 0), .int (th_mx y5 v4), .int y6, .int y7, .int v2, .int v4]) X (th_da dtX3_swings 59 rfl) (Nat.le_of_ble_eq_true rfl) rfl rfl ?_
        refine V_iload (pc := 116) X (th_da dtX3_swings 60 rfl) rfl ?_
        refine V_iload (pc := 118) X (th_da dtX3_swings 61 rfl) rfl ?_
        refine V_mmin (pc := 120) X (th_da dtX3_swings 62 rfl) wml_X3_283 wst_J9_min_7cf53 win_J9_min_7cf53 wcd_J9_min_7cf53 (Nat.le_of_ble_eq_true rfl) (Nat.le_of_ble_eq_true rfl) ?_
        refine V_istore (pc := 123) (ls2 := [.ref 0, .int y1, .int y2, .int y3, .int (y4 + 0), .int (th_mx y5 v4), .int (th_mn y6 v4), .int y7, .int v2, .int v4]) X (th_da dtX3_swings 63 rfl) (Nat.le_of_ble_eq_true rfl) rfl rfl ?_
        refine V_iinc (pc := 125) (v := y7 + 1) (ls2 := [.ref 0, .int y1, .int y2, .int y3, .int (y4 + 0), .int (th_mx y5 v4), .int (th_mn y6 v4), .int (y7 + 1), .int v2, .int v4]) X (th_da dtX3_swings 64 rfl) rfl rfl (Nat.le_of_ble_eq_true rfl) rfl rfl ?_
        refine V_goto (pc := 128) (tgt := 54) X (th_da dtX3_swings 65 rfl) (by decide) ?_
        refine V_mask [true, true, true, true, true, true, true, true, false, false] (ls2 := [.ref 0, .int y1, .int y2, .int y3, .int (y4 + 0), .int (th_mx y5 v4), .int (th_mn y6 v4), .int (y7 + 1), .null, .null]) rfl ?_
        exact ih _ _ _ _ _ _ _ _ hf
      · rw [if_neg c5] at hf
        refine V_iconst (pc := 99) (v := 1) X (th_da dtX3_swings 51 rfl) (by decide) ?_
        refine V_goto (pc := 100) (tgt := 104) X (th_da dtX3_swings 52 rfl) (by decide) ?_
        refine V_iadd (pc := 104) X (th_da dtX3_swings 54 rfl) ?_
        refine V_istore (pc := 105) (ls2 := [.ref 0, .int y1, .int y2, .int y3, .int (y4 + 1), .int y5, .int y6, .int y7, .int v2, .int v4]) X (th_da dtX3_swings 55 rfl) (Nat.le_of_ble_eq_true rfl) rfl rfl ?_
        refine V_iload (pc := 107) X (th_da dtX3_swings 56 rfl) rfl ?_
        refine V_iload (pc := 109) X (th_da dtX3_swings 57 rfl) rfl ?_
        refine V_mmax (pc := 111) X (th_da dtX3_swings 58 rfl) wml_X3_278 wst_J9_max_7cf53 win_J9_max_7cf53 wcd_J9_max_7cf53 (Nat.le_of_ble_eq_true rfl) (Nat.le_of_ble_eq_true rfl) ?_
        refine V_istore (pc := 114) (ls2 := [.ref 0, .int y1, .int y2, .int y3, .int (y4 + 1), .int (th_mx y5 v4), .int y6, .int y7, .int v2, .int v4]) X (th_da dtX3_swings 59 rfl) (Nat.le_of_ble_eq_true rfl) rfl rfl ?_
        refine V_iload (pc := 116) X (th_da dtX3_swings 60 rfl) rfl ?_
        refine V_iload (pc := 118) X (th_da dtX3_swings 61 rfl) rfl ?_
        refine V_mmin (pc := 120) X (th_da dtX3_swings 62 rfl) wml_X3_283 wst_J9_min_7cf53 win_J9_min_7cf53 wcd_J9_min_7cf53 (Nat.le_of_ble_eq_true rfl) (Nat.le_of_ble_eq_true rfl) ?_
        refine V_istore (pc := 123) (ls2 := [.ref 0, .int y1, .int y2, .int y3, .int (y4 + 1), .int (th_mx y5 v4), .int (th_mn y6 v4), .int y7, .int v2, .int v4]) X (th_da dtX3_swings 63 rfl) (Nat.le_of_ble_eq_true rfl) rfl rfl ?_
        refine V_iinc (pc := 125) (v := y7 + 1) (ls2 := [.ref 0, .int y1, .int y2, .int y3, .int (y4 + 1), .int (th_mx y5 v4), .int (th_mn y6 v4), .int (y7 + 1), .int v2, .int v4]) X (th_da dtX3_swings 64 rfl) rfl rfl (Nat.le_of_ble_eq_true rfl) rfl rfl ?_
        refine V_goto (pc := 128) (tgt := 54) X (th_da dtX3_swings 65 rfl) (by decide) ?_
        refine V_mask [true, true, true, true, true, true, true, true, false, false] (ls2 := [.ref 0, .int y1, .int y2, .int y3, .int (y4 + 1), .int (th_mx y5 v4), .int (th_mn y6 v4), .int (y7 + 1), .null, .null]) rfl ?_
        exact ih _ _ _ _ _ _ _ _ hf
    · rw [if_neg c1] at hf
      refine V_iload_n (pc := 131) X (th_da dtX3_swings 66 rfl) rfl ?_
      refine V_if_ne (pc := 132) (tgt := 138) X (th_da dtX3_swings 67 rfl) (by decide) (fun c6 => ?_) (fun c6 => ?_)
      · rw [if_pos c6] at hf
        refine V_iload (pc := 135) X (th_da dtX3_swings 68 rfl) rfl ?_
        exact V_iretF (pc := 137) X (th_da dtX3_swings 69 rfl) hf
      · rw [if_neg c6] at hf
        refine V_iload_n (pc := 138) X (th_da dtX3_swings 70 rfl) rfl ?_
        refine V_iconst (pc := 139) (v := 1) X (th_da dtX3_swings 71 rfl) (by decide) ?_
        refine V_icmp_ne (pc := 140) (tgt := 148) X (th_da dtX3_swings 72 rfl) (by decide) (fun c7 => ?_) (fun c7 => ?_)
        · rw [if_pos c7] at hf
          refine V_iload (pc := 143) X (th_da dtX3_swings 73 rfl) rfl ?_
          refine V_goto (pc := 145) (tgt := 150) X (th_da dtX3_swings 74 rfl) (by decide) ?_
          exact V_iretF (pc := 150) X (th_da dtX3_swings 76 rfl) hf
        · rw [if_neg c7] at hf
          refine V_iload (pc := 148) X (th_da dtX3_swings 75 rfl) rfl ?_
          exact V_iretF (pc := 150) X (th_da dtX3_swings 76 rfl) hf
set_option maxHeartbeats 4000000 in
set_option maxRecDepth 100000 in
theorem mX3_swings (l : Launch) (x1 : Int32) (x2 : Int32) (x3 : Int32) (h : th_H) (rr : Int32) (hh : th_H) (hf : fX3_swings x1 x2 x3 h = some (rr, hh)) : th_MI l LC yX3_swings cX3_swings 10 (some .int) 6 140 [.ref 0, .int x1, .int x2, .int x3] h (some (.int rr)) hh := by
  refine th_MI_of (ls := [.ref 0, .int x1, .int x2, .int x3, .null, .null, .null, .null, .null, .null]) RX3 rfl rfl rfl (Nat.le_of_ble_eq_true rfl) ?_
  intro p0 e s m args below meth c D cI cZ ad X
  unfold fX3_swings at hf
  refine V_aload_n (pc := 0) X (th_da dtX3_swings 0 rfl) rfl ?_
  refine V_getR (pc := 1) (j := 1) (t := 2) X (th_da dtX3_swings 1 rfl) wfl_X3_20 iX3 rfl rfl (Nat.le_of_ble_eq_true rfl) rfl ?_
  refine V_iload_n (pc := 4) X (th_da dtX3_swings 2 rfl) rfl ?_
  obtain ⟨u1, h1, e1, hf⟩ := th_bd_some hf
  refine V_callVi (pc := 5) (q := 2) (As := [.int x1]) X (th_da dtX3_swings 3 rfl) (mX0_has l 2 isP_2 _ _ _ _ e1) wcd_X0_has wml_X3_80 wim_X0_has wse_X0_has win_X0_has hd_X0_has ⟨Nat.le_of_ble_eq_true rfl, Nat.le_of_ble_eq_true rfl⟩ (Nat.le_of_ble_eq_true rfl) rfl rfl rfl ?_
  refine V_if_eq (pc := 8) (tgt := 27) X (th_da dtX3_swings 4 rfl) (by decide) (fun c2 => ?_) (fun c2 => ?_)
  · rw [if_pos c2] at hf
    refine V_iconst (pc := 27) (v := (-1)) X (th_da dtX3_swings 13 rfl) (by decide) ?_
    exact V_iretF (pc := 28) X (th_da dtX3_swings 14 rfl) hf
  · rw [if_neg c2] at hf
    refine V_iload_n (pc := 11) X (th_da dtX3_swings 5 rfl) rfl ?_
    obtain ⟨u3, h3, e3, hf⟩ := th_bd_some hf
    refine V_callSi (pc := 12) (As := [.int x2]) X (th_da dtX3_swings 6 rfl) (mX3_isPaperRounds l _ _ _ _ e3) wcd_X3_isPaperRounds wml_X3_274 wst_X3_isPaperRounds win_X3_isPaperRounds hd_X3_isPaperRounds ⟨Nat.le_of_ble_eq_true rfl, Nat.le_of_ble_eq_true rfl⟩ (Nat.le_of_ble_eq_true rfl) rfl ?_
    refine V_if_eq (pc := 15) (tgt := 27) X (th_da dtX3_swings 7 rfl) (by decide) (fun c4 => ?_) (fun c4 => ?_)
    · rw [if_pos c4] at hf
      refine V_iconst (pc := 27) (v := (-1)) X (th_da dtX3_swings 13 rfl) (by decide) ?_
      exact V_iretF (pc := 28) X (th_da dtX3_swings 14 rfl) hf
    · rw [if_neg c4] at hf
      refine V_iload_n (pc := 18) X (th_da dtX3_swings 8 rfl) rfl ?_
      refine V_if_lt (pc := 19) (tgt := 27) X (th_da dtX3_swings 9 rfl) (by decide) (fun c5 => ?_) (fun c5 => ?_)
      · rw [if_pos c5] at hf
        refine V_iconst (pc := 27) (v := (-1)) X (th_da dtX3_swings 13 rfl) (by decide) ?_
        exact V_iretF (pc := 28) X (th_da dtX3_swings 14 rfl) hf
      · rw [if_neg c5] at hf
        refine V_iload_n (pc := 22) X (th_da dtX3_swings 10 rfl) rfl ?_
        refine V_iconst (pc := 23) (v := 2) X (th_da dtX3_swings 11 rfl) (by decide) ?_
        refine V_icmp_le (pc := 24) (tgt := 29) X (th_da dtX3_swings 12 rfl) (by decide) (fun c6 => ?_) (fun c6 => ?_)
        · rw [if_pos c6] at hf
          refine V_iconst (pc := 27) (v := (-1)) X (th_da dtX3_swings 13 rfl) (by decide) ?_
          exact V_iretF (pc := 28) X (th_da dtX3_swings 14 rfl) hf
        · rw [if_neg c6] at hf
          refine V_aload_n (pc := 29) X (th_da dtX3_swings 15 rfl) rfl ?_
          refine V_getR (pc := 30) (j := 3) (t := 27) X (th_da dtX3_swings 16 rfl) wfl_X3_30 iX3 rfl rfl (Nat.le_of_ble_eq_true rfl) rfl ?_
          refine V_aload_n (pc := 33) X (th_da dtX3_swings 17 rfl) rfl ?_
          refine V_getR (pc := 34) (j := 0) (t := 1) X (th_da dtX3_swings 18 rfl) wfl_X3_12 iX3 rfl rfl (Nat.le_of_ble_eq_true rfl) rfl ?_
          obtain ⟨u7, h7, e7, hf⟩ := th_bd_some hf
          refine V_callVv (pc := 37) (q := 27) (As := [.ref 1]) X (th_da dtX3_swings 19 rfl) (mX1_copy l 27 1 isQ_27 isQ_1 _ _ _ e7) wcd_X1_copy wml_X3_151 wim_X1_copy wse_X1_copy win_X1_copy hd_X1_copy ⟨Nat.le_of_ble_eq_true rfl, Nat.le_of_ble_eq_true rfl⟩ (Nat.le_of_ble_eq_true rfl) rfl rfl rfl ?_
          refine V_iconst (pc := 40) (v := 0) X (th_da dtX3_swings 20 rfl) (by decide) ?_
          refine V_istore (pc := 41) (ls2 := [.ref 0, .int x1, .int x2, .int x3, .int 0, .null, .null, .null, .null, .null]) X (th_da dtX3_swings 21 rfl) (Nat.le_of_ble_eq_true rfl) rfl rfl ?_
          refine V_iconst (pc := 43) (v := 0) X (th_da dtX3_swings 22 rfl) (by decide) ?_
          refine V_istore (pc := 44) (ls2 := [.ref 0, .int x1, .int x2, .int x3, .int 0, .int 0, .null, .null, .null, .null]) X (th_da dtX3_swings 23 rfl) (Nat.le_of_ble_eq_true rfl) rfl rfl ?_
          refine V_ldcw (pc := 46) (v := 1000000) X (th_da dtX3_swings 24 rfl) wco_X3_277 ?_
          refine V_istore (pc := 49) (ls2 := [.ref 0, .int x1, .int x2, .int x3, .int 0, .int 0, .int 1000000, .null, .null, .null]) X (th_da dtX3_swings 25 rfl) (Nat.le_of_ble_eq_true rfl) rfl rfl ?_
          refine V_iconst (pc := 51) (v := 0) X (th_da dtX3_swings 26 rfl) (by decide) ?_
          refine V_istore (pc := 52) (ls2 := [.ref 0, .int x1, .int x2, .int x3, .int 0, .int 0, .int 1000000, .int 0, .null, .null]) X (th_da dtX3_swings 27 rfl) (Nat.le_of_ble_eq_true rfl) rfl rfl ?_
          exact tX3_swings_c54 X _ _ _ _ _ _ _ _ _ hf
end
def fX3_peak_c32 : Nat → Int32 → Int32 → Int32 → Int32 → th_H → Option (Int32 × th_H)
  | 0, _, _, _, _, _ => none
  | n + 1, y1, y2, y3, y4, h =>
    if (y4 < y2 : Prop) then
      th_bd (fX1_goRound 27 h) fun u2 h2 =>
      th_bd (fX1_bookedAt 27 y1 h2) fun u3 h3 =>
      fX3_peak_c32 n y1 y2 (th_mx y3 u3) (y4 + 1) h3
    else
      some (y3, h)
def fX3_peak (x1 : Int32) (x2 : Int32) (h : th_H) : Option (Int32 × th_H) :=
  th_bd (fX3_isLink x1 h) fun u1 h1 =>
  if (u1 = 0 : Prop) then
    some ((-1), h1)
  else
    th_bd (fX3_isPaperRounds x2 h1) fun u3 h3 =>
    if (u3 = 0 : Prop) then
      some ((-1), h3)
    else
      th_bd (fX1_copy 27 1 h3) fun _u5 h5 =>
      fX3_peak_c32 1000 x1 x2 0 0 h5
def tbX3_peak : List (Nat × Instr × Nat) := [(0, .iload_n 1, 1), (1, .invokestatic 49, 3), (4, .ifCond .eq 10, 3), (7, .iload_n 2, 1), (8, .invokestatic 274, 3), (11, .ifCond .ne 5, 3), (14, .iconst (-1), 1), (15, .ireturn, 1), (16, .aload_n 0, 1), (17, .getfield 30, 3), (20, .aload_n 0, 1), (21, .getfield 12, 3), (24, .invokevirtual 151, 3), (27, .iconst 0, 1), (28, .istore_n 3, 1), (29, .iconst 0, 1), (30, .istore 4, 2), (32, .iload 4, 2), (34, .iload_n 2, 1), (35, .if_icmp .ge 30, 3), (38, .aload_n 0, 1), (39, .getfield 30, 3), (42, .invokevirtual 144, 3), (45, .pop, 1), (46, .iload_n 3, 1), (47, .aload_n 0, 1), (48, .getfield 30, 3), (51, .iload_n 1, 1), (52, .invokevirtual 264, 3), (55, .invokestatic 278, 3), (58, .istore_n 3, 1), (59, .iinc 4 1, 3), (62, .goto (-30), 3), (65, .iload_n 3, 1), (66, .ireturn, 1)]
theorem dtX3_peak : th_dec cX3_peak tbX3_peak = true := by decide +kernel
section
variable {p0 : Program} {l : Launch} {e : Env} {s : State} {m : MethodId} {args : Array Value} {below : List Frame} {meth : Method} {c : Code} {D : va_G} {cI cZ : ClassId} {ad : Nat → Nat} {rr : Int32} {hh : th_H}
set_option maxHeartbeats 4000000 in
set_option maxRecDepth 100000 in
theorem tX3_peak_c32 (X : th_X p0 s m args meth c D cI cZ ad LC 5 RX3 cX3_peak (some .int)) : ∀ (n : Nat) (y1 : Int32) (y2 : Int32) (y3 : Int32) (y4 : Int32) (h : th_H), fX3_peak_c32 n y1 y2 y3 y4 h = some (rr, hh) → th_V p0 l e { frames := 6, cells := 0, slots := 0, locals := 140 } s m args below meth c D cI cZ ad LC 5 (some (.int rr)) hh 32 [.ref 0, .int y1, .int y2, .int y3, .int y4] [] h := by
  intro n
  induction n with
  | zero => intro y1 y2 y3 y4 h hf; cases hf
  | succ n ih =>
    intro y1 y2 y3 y4 h hf
    rw [fX3_peak_c32] at hf
    refine V_iload (pc := 32) X (th_da dtX3_peak 17 rfl) rfl ?_
    refine V_iload_n (pc := 34) X (th_da dtX3_peak 18 rfl) rfl ?_
    refine V_icmp_ge (pc := 35) (tgt := 65) X (th_da dtX3_peak 19 rfl) (by decide) (fun c1 => ?_) (fun c1 => ?_)
    · rw [if_pos c1] at hf
      refine V_aload_n (pc := 38) X (th_da dtX3_peak 20 rfl) rfl ?_
      refine V_getR (pc := 39) (j := 3) (t := 27) X (th_da dtX3_peak 21 rfl) wfl_X3_30 iX3 rfl rfl (Nat.le_of_ble_eq_true rfl) rfl ?_
      obtain ⟨u2, h2, e2, hf⟩ := th_bd_some hf
      refine V_callVi (pc := 42) (q := 27) (As := []) X (th_da dtX3_peak 22 rfl) (mX1_goRound l 27 isQ_27 _ _ _ e2) wcd_X1_goRound wml_X3_144 wim_X1_goRound wse_X1_goRound win_X1_goRound hd_X1_goRound ⟨Nat.le_of_ble_eq_true rfl, Nat.le_of_ble_eq_true rfl⟩ (Nat.le_of_ble_eq_true rfl) rfl rfl rfl ?_
      refine V_pop (pc := 45) X (th_da dtX3_peak 23 rfl) rfl ?_
      refine V_iload_n (pc := 46) X (th_da dtX3_peak 24 rfl) rfl ?_
      refine V_aload_n (pc := 47) X (th_da dtX3_peak 25 rfl) rfl ?_
      refine V_getR (pc := 48) (j := 3) (t := 27) X (th_da dtX3_peak 26 rfl) wfl_X3_30 iX3 rfl rfl (Nat.le_of_ble_eq_true rfl) rfl ?_
      refine V_iload_n (pc := 51) X (th_da dtX3_peak 27 rfl) rfl ?_
      obtain ⟨u3, h3, e3, hf⟩ := th_bd_some hf
      refine V_callVi (pc := 52) (q := 27) (As := [.int y1]) X (th_da dtX3_peak 28 rfl) (mX1_bookedAt l 27 isQ_27 _ _ _ _ e3) wcd_X1_bookedAt wml_X3_264 wim_X1_bookedAt wse_X1_bookedAt win_X1_bookedAt hd_X1_bookedAt ⟨Nat.le_of_ble_eq_true rfl, Nat.le_of_ble_eq_true rfl⟩ (Nat.le_of_ble_eq_true rfl) rfl rfl rfl ?_
      refine V_mmax (pc := 55) X (th_da dtX3_peak 29 rfl) wml_X3_278 wst_J9_max_7cf53 win_J9_max_7cf53 wcd_J9_max_7cf53 (Nat.le_of_ble_eq_true rfl) (Nat.le_of_ble_eq_true rfl) ?_
      refine V_istore_n (pc := 58) (ls2 := [.ref 0, .int y1, .int y2, .int (th_mx y3 u3), .int y4]) X (th_da dtX3_peak 30 rfl) (Nat.le_of_ble_eq_true rfl) rfl rfl ?_
      refine V_iinc (pc := 59) (v := y4 + 1) (ls2 := [.ref 0, .int y1, .int y2, .int (th_mx y3 u3), .int (y4 + 1)]) X (th_da dtX3_peak 31 rfl) rfl rfl (Nat.le_of_ble_eq_true rfl) rfl rfl ?_
      refine V_goto (pc := 62) (tgt := 32) X (th_da dtX3_peak 32 rfl) (by decide) ?_
      exact ih _ _ _ _ _ hf
    · rw [if_neg c1] at hf
      refine V_iload_n (pc := 65) X (th_da dtX3_peak 33 rfl) rfl ?_
      exact V_iretF (pc := 66) X (th_da dtX3_peak 34 rfl) hf
set_option maxHeartbeats 4000000 in
set_option maxRecDepth 100000 in
theorem mX3_peak (l : Launch) (x1 : Int32) (x2 : Int32) (h : th_H) (rr : Int32) (hh : th_H) (hf : fX3_peak x1 x2 h = some (rr, hh)) : th_MI l LC yX3_peak cX3_peak 5 (some .int) 6 140 [.ref 0, .int x1, .int x2] h (some (.int rr)) hh := by
  refine th_MI_of (ls := [.ref 0, .int x1, .int x2, .null, .null]) RX3 rfl rfl rfl (Nat.le_of_ble_eq_true rfl) ?_
  intro p0 e s m args below meth c D cI cZ ad X
  unfold fX3_peak at hf
  refine V_iload_n (pc := 0) X (th_da dtX3_peak 0 rfl) rfl ?_
  obtain ⟨u1, h1, e1, hf⟩ := th_bd_some hf
  refine V_callSi (pc := 1) (As := [.int x1]) X (th_da dtX3_peak 1 rfl) (mX3_isLink l _ _ _ _ e1) wcd_X3_isLink wml_X3_49 wst_X3_isLink win_X3_isLink hd_X3_isLink ⟨Nat.le_of_ble_eq_true rfl, Nat.le_of_ble_eq_true rfl⟩ (Nat.le_of_ble_eq_true rfl) rfl ?_
  refine V_if_eq (pc := 4) (tgt := 14) X (th_da dtX3_peak 2 rfl) (by decide) (fun c2 => ?_) (fun c2 => ?_)
  · rw [if_pos c2] at hf
    refine V_iconst (pc := 14) (v := (-1)) X (th_da dtX3_peak 6 rfl) (by decide) ?_
    exact V_iretF (pc := 15) X (th_da dtX3_peak 7 rfl) hf
  · rw [if_neg c2] at hf
    refine V_iload_n (pc := 7) X (th_da dtX3_peak 3 rfl) rfl ?_
    obtain ⟨u3, h3, e3, hf⟩ := th_bd_some hf
    refine V_callSi (pc := 8) (As := [.int x2]) X (th_da dtX3_peak 4 rfl) (mX3_isPaperRounds l _ _ _ _ e3) wcd_X3_isPaperRounds wml_X3_274 wst_X3_isPaperRounds win_X3_isPaperRounds hd_X3_isPaperRounds ⟨Nat.le_of_ble_eq_true rfl, Nat.le_of_ble_eq_true rfl⟩ (Nat.le_of_ble_eq_true rfl) rfl ?_
    refine V_if_ne (pc := 11) (tgt := 16) X (th_da dtX3_peak 5 rfl) (by decide) (fun c4 => ?_) (fun c4 => ?_)
    · rw [if_pos c4] at hf
      refine V_iconst (pc := 14) (v := (-1)) X (th_da dtX3_peak 6 rfl) (by decide) ?_
      exact V_iretF (pc := 15) X (th_da dtX3_peak 7 rfl) hf
    · rw [if_neg c4] at hf
      refine V_aload_n (pc := 16) X (th_da dtX3_peak 8 rfl) rfl ?_
      refine V_getR (pc := 17) (j := 3) (t := 27) X (th_da dtX3_peak 9 rfl) wfl_X3_30 iX3 rfl rfl (Nat.le_of_ble_eq_true rfl) rfl ?_
      refine V_aload_n (pc := 20) X (th_da dtX3_peak 10 rfl) rfl ?_
      refine V_getR (pc := 21) (j := 0) (t := 1) X (th_da dtX3_peak 11 rfl) wfl_X3_12 iX3 rfl rfl (Nat.le_of_ble_eq_true rfl) rfl ?_
      obtain ⟨u5, h5, e5, hf⟩ := th_bd_some hf
      refine V_callVv (pc := 24) (q := 27) (As := [.ref 1]) X (th_da dtX3_peak 12 rfl) (mX1_copy l 27 1 isQ_27 isQ_1 _ _ _ e5) wcd_X1_copy wml_X3_151 wim_X1_copy wse_X1_copy win_X1_copy hd_X1_copy ⟨Nat.le_of_ble_eq_true rfl, Nat.le_of_ble_eq_true rfl⟩ (Nat.le_of_ble_eq_true rfl) rfl rfl rfl ?_
      refine V_iconst (pc := 27) (v := 0) X (th_da dtX3_peak 13 rfl) (by decide) ?_
      refine V_istore_n (pc := 28) (ls2 := [.ref 0, .int x1, .int x2, .int 0, .null]) X (th_da dtX3_peak 14 rfl) (Nat.le_of_ble_eq_true rfl) rfl rfl ?_
      refine V_iconst (pc := 29) (v := 0) X (th_da dtX3_peak 15 rfl) (by decide) ?_
      refine V_istore (pc := 30) (ls2 := [.ref 0, .int x1, .int x2, .int 0, .int 0]) X (th_da dtX3_peak 16 rfl) (Nat.le_of_ble_eq_true rfl) rfl rfl ?_
      exact tX3_peak_c32 X _ _ _ _ _ _ hf
end
def fX3_off (h : th_H) : Option (Int64 × th_H) :=
  th_bd (fX3_farFromFair 1 h) fun u1 h1 =>
  some (u1, h1)
def tbX3_off : List (Nat × Instr × Nat) := [(0, .aload_n 0, 1), (1, .aload_n 0, 1), (2, .getfield 12, 3), (5, .invokevirtual 270, 3), (8, .lreturn, 1)]
theorem dtX3_off : th_dec cX3_off tbX3_off = true := by decide +kernel
section
variable {p0 : Program} {l : Launch} {e : Env} {s : State} {m : MethodId} {args : Array Value} {below : List Frame} {meth : Method} {c : Code} {D : va_G} {cI cZ : ClassId} {ad : Nat → Nat} {rr : Int64} {hh : th_H}
set_option maxHeartbeats 4000000 in
set_option maxRecDepth 100000 in
theorem mX3_off (l : Launch) (h : th_H) (rr : Int64) (hh : th_H) (hf : fX3_off h = some (rr, hh)) : th_MI l LC yX3_off cX3_off 1 (some .long) 6 145 [.ref 0] h (some (.long rr)) hh := by
  refine th_MI_of (ls := [.ref 0]) RX3 rfl rfl rfl (Nat.le_of_ble_eq_true rfl) ?_
  intro p0 e s m args below meth c D cI cZ ad X
  unfold fX3_off at hf
  refine V_aload_n (pc := 0) X (th_da dtX3_off 0 rfl) rfl ?_
  refine V_aload_n (pc := 1) X (th_da dtX3_off 1 rfl) rfl ?_
  refine V_getR (pc := 2) (j := 0) (t := 1) X (th_da dtX3_off 2 rfl) wfl_X3_12 iX3 rfl rfl (Nat.le_of_ble_eq_true rfl) rfl ?_
  obtain ⟨u1, h1, e1, hf⟩ := th_bd_some hf
  refine V_callVl (pc := 5) (q := 0) (As := [.ref 1]) X (th_da dtX3_off 3 rfl) (mX3_farFromFair l 1 isQ_1 _ _ _ e1) wcd_X3_farFromFair wml_X3_270 wim_X3_farFromFair wse_X3_farFromFair win_X3_farFromFair hd_X3_farFromFair ⟨Nat.le_of_ble_eq_true rfl, Nat.le_of_ble_eq_true rfl⟩ (Nat.le_of_ble_eq_true rfl) rfl rfl rfl ?_
  exact V_lretF (pc := 8) X (th_da dtX3_off 4 rfl) hf
end
def fX3_newSheet (h : th_H) : Option (Unit × th_H) :=
  th_bd (fX0_copy 28 2 h) fun _u1 h1 =>
  some ((), h1)
def tbX3_newSheet : List (Nat × Instr × Nat) := [(0, .aload_n 0, 1), (1, .getfield 30, 3), (4, .getfield 16, 3), (7, .aload_n 0, 1), (8, .getfield 20, 3), (11, .invokevirtual 343, 3), (14, .aload_n 0, 1), (15, .getfield 30, 3), (18, .getfield 16, 3), (21, .areturn, 1)]
theorem dtX3_newSheet : th_dec cX3_newSheet tbX3_newSheet = true := by decide +kernel
section
variable {p0 : Program} {l : Launch} {e : Env} {s : State} {m : MethodId} {args : Array Value} {below : List Frame} {meth : Method} {c : Code} {D : va_G} {cI cZ : ClassId} {ad : Nat → Nat} {rr : Unit} {hh : th_H}
set_option maxHeartbeats 4000000 in
set_option maxRecDepth 100000 in
theorem mX3_newSheet (l : Launch) (h : th_H) (rr : Unit) (hh : th_H) (hf : fX3_newSheet h = some (rr, hh)) : th_MI l LC yX3_newSheet cX3_newSheet 1 (some (.object "FairRates$Plan")) 2 47 [.ref 0] h (some (.ref 28)) hh := by
  refine th_MI_of (ls := [.ref 0]) RX3 rfl rfl rfl (Nat.le_of_ble_eq_true rfl) ?_
  intro p0 e s m args below meth c D cI cZ ad X
  unfold fX3_newSheet at hf
  refine V_aload_n (pc := 0) X (th_da dtX3_newSheet 0 rfl) rfl ?_
  refine V_getR (pc := 1) (j := 3) (t := 27) X (th_da dtX3_newSheet 1 rfl) wfl_X3_30 iX3 rfl rfl (Nat.le_of_ble_eq_true rfl) rfl ?_
  refine V_getR (pc := 4) (j := 0) (t := 28) X (th_da dtX3_newSheet 2 rfl) wfl_X3_16 iX1 rfl rfl (Nat.le_of_ble_eq_true rfl) rfl ?_
  refine V_aload_n (pc := 7) X (th_da dtX3_newSheet 3 rfl) rfl ?_
  refine V_getR (pc := 8) (j := 1) (t := 2) X (th_da dtX3_newSheet 4 rfl) wfl_X3_20 iX3 rfl rfl (Nat.le_of_ble_eq_true rfl) rfl ?_
  obtain ⟨u1, h1, e1, hf⟩ := th_bd_some hf
  refine V_callVv (pc := 11) (q := 28) (As := [.ref 2]) X (th_da dtX3_newSheet 5 rfl) (mX0_copy l 28 2 (Q_p isQ_27) isP_2 _ _ _ e1) wcd_X0_copy wml_X3_343 wim_X0_copy wse_X0_copy win_X0_copy hd_X0_copy ⟨Nat.le_of_ble_eq_true rfl, Nat.le_of_ble_eq_true rfl⟩ (Nat.le_of_ble_eq_true rfl) rfl rfl rfl ?_
  refine V_aload_n (pc := 14) X (th_da dtX3_newSheet 6 rfl) rfl ?_
  refine V_getR (pc := 15) (j := 3) (t := 27) X (th_da dtX3_newSheet 7 rfl) wfl_X3_30 iX3 rfl rfl (Nat.le_of_ble_eq_true rfl) rfl ?_
  refine V_getR (pc := 18) (j := 0) (t := 28) X (th_da dtX3_newSheet 8 rfl) wfl_X3_16 iX1 rfl rfl (Nat.le_of_ble_eq_true rfl) rfl ?_
  exact V_aretF (pc := 21) (o := "FairRates$Plan") X rfl (th_da dtX3_newSheet 9 rfl) hf
end
def fX3_would (x1 : Int32) (x2 : Int32) (x3 : Int32) (x4 : Int32) (h : th_H) : Option (Int32 × th_H) :=
  th_bd (fX3_whyNoSuchFlow 2 x1 x2 x3 x4 h) fun u1 h1 =>
  if (u1 = (-1) : Prop) then
    th_bd (fX3_newSheet h1) fun _u3 h3 =>
    th_bd (fX0_add 28 (-1) x1 x2 x3 x4 h3) fun u4 h4 =>
    th_bd (fX2_rise 45 28 h4) fun _u5 h5 =>
    th_bd (fX2_rateOf 45 28 u4 h5) fun u6 h6 =>
    some (u6, h6)
  else
    some ((-1), h1)
def tbX3_would : List (Nat × Instr × Nat) := [(0, .aload_n 0, 1), (1, .getfield 20, 3), (4, .iload_n 1, 1), (5, .iload_n 2, 1), (6, .iload_n 3, 1), (7, .iload 4, 2), (9, .invokestatic 286, 3), (12, .iconst (-1), 1), (13, .if_icmp .eq 5, 3), (16, .iconst (-1), 1), (17, .ireturn, 1), (18, .aload_n 0, 1), (19, .invokevirtual 290, 3), (22, .iconst (-1), 1), (23, .iload_n 1, 1), (24, .iload_n 2, 1), (25, .iload_n 3, 1), (26, .iload 4, 2), (28, .invokevirtual 294, 3), (31, .istore 5, 2), (33, .aload_n 0, 1), (34, .getfield 33, 3), (37, .invokevirtual 187, 3), (40, .aload_n 0, 1), (41, .getfield 33, 3), (44, .iload 5, 2), (46, .invokevirtual 190, 3), (49, .ireturn, 1)]
theorem dtX3_would : th_dec cX3_would tbX3_would = true := by decide +kernel
section
variable {p0 : Program} {l : Launch} {e : Env} {s : State} {m : MethodId} {args : Array Value} {below : List Frame} {meth : Method} {c : Code} {D : va_G} {cI cZ : ClassId} {ad : Nat → Nat} {rr : Int32} {hh : th_H}
set_option maxHeartbeats 4000000 in
set_option maxRecDepth 100000 in
theorem mX3_would (l : Launch) (x1 : Int32) (x2 : Int32) (x3 : Int32) (x4 : Int32) (h : th_H) (rr : Int32) (hh : th_H) (hf : fX3_would x1 x2 x3 x4 h = some (rr, hh)) : th_MI l LC yX3_would cX3_would 6 (some .int) 5 121 [.ref 0, .int x1, .int x2, .int x3, .int x4] h (some (.int rr)) hh := by
  refine th_MI_of (ls := [.ref 0, .int x1, .int x2, .int x3, .int x4, .null]) RX3 rfl rfl rfl (Nat.le_of_ble_eq_true rfl) ?_
  intro p0 e s m args below meth c D cI cZ ad X
  unfold fX3_would at hf
  refine V_aload_n (pc := 0) X (th_da dtX3_would 0 rfl) rfl ?_
  refine V_getR (pc := 1) (j := 1) (t := 2) X (th_da dtX3_would 1 rfl) wfl_X3_20 iX3 rfl rfl (Nat.le_of_ble_eq_true rfl) rfl ?_
  refine V_iload_n (pc := 4) X (th_da dtX3_would 2 rfl) rfl ?_
  refine V_iload_n (pc := 5) X (th_da dtX3_would 3 rfl) rfl ?_
  refine V_iload_n (pc := 6) X (th_da dtX3_would 4 rfl) rfl ?_
  refine V_iload (pc := 7) X (th_da dtX3_would 5 rfl) rfl ?_
  obtain ⟨u1, h1, e1, hf⟩ := th_bd_some hf
  refine V_callSi (pc := 9) (As := [.ref 2, .int x1, .int x2, .int x3, .int x4]) X (th_da dtX3_would 6 rfl) (mX3_whyNoSuchFlow l 2 isP_2 _ _ _ _ _ _ _ e1) wcd_X3_whyNoSuchFlow wml_X3_286 wst_X3_whyNoSuchFlow win_X3_whyNoSuchFlow hd_X3_whyNoSuchFlow ⟨Nat.le_of_ble_eq_true rfl, Nat.le_of_ble_eq_true rfl⟩ (Nat.le_of_ble_eq_true rfl) rfl ?_
  refine V_iconst (pc := 12) (v := (-1)) X (th_da dtX3_would 7 rfl) (by decide) ?_
  refine V_icmp_eq (pc := 13) (tgt := 18) X (th_da dtX3_would 8 rfl) (by decide) (fun c2 => ?_) (fun c2 => ?_)
  · rw [if_pos c2] at hf
    refine V_aload_n (pc := 18) X (th_da dtX3_would 11 rfl) rfl ?_
    obtain ⟨u3, h3, e3, hf⟩ := th_bd_some hf
    refine V_callVr (pc := 19) (q := 0) (As := []) X (th_da dtX3_would 12 rfl) (mX3_newSheet l _ _ _ e3) wcd_X3_newSheet wml_X3_290 wim_X3_newSheet wse_X3_newSheet win_X3_newSheet hd_X3_newSheet ⟨Nat.le_of_ble_eq_true rfl, Nat.le_of_ble_eq_true rfl⟩ (Nat.le_of_ble_eq_true rfl) rfl rfl rfl ?_
    refine V_iconst (pc := 22) (v := (-1)) X (th_da dtX3_would 13 rfl) (by decide) ?_
    refine V_iload_n (pc := 23) X (th_da dtX3_would 14 rfl) rfl ?_
    refine V_iload_n (pc := 24) X (th_da dtX3_would 15 rfl) rfl ?_
    refine V_iload_n (pc := 25) X (th_da dtX3_would 16 rfl) rfl ?_
    refine V_iload (pc := 26) X (th_da dtX3_would 17 rfl) rfl ?_
    obtain ⟨u4, h4, e4, hf⟩ := th_bd_some hf
    refine V_callVi (pc := 28) (q := 28) (As := [.int (-1), .int x1, .int x2, .int x3, .int x4]) X (th_da dtX3_would 18 rfl) (mX0_add l 28 isP_28 _ _ _ _ _ _ _ _ e4) wcd_X0_add wml_X3_294 wim_X0_add wse_X0_add win_X0_add hd_X0_add ⟨Nat.le_of_ble_eq_true rfl, Nat.le_of_ble_eq_true rfl⟩ (Nat.le_of_ble_eq_true rfl) rfl rfl rfl ?_
    refine V_istore (pc := 31) (ls2 := [.ref 0, .int x1, .int x2, .int x3, .int x4, .int u4]) X (th_da dtX3_would 19 rfl) (Nat.le_of_ble_eq_true rfl) rfl rfl ?_
    refine V_aload_n (pc := 33) X (th_da dtX3_would 20 rfl) rfl ?_
    refine V_getR (pc := 34) (j := 4) (t := 45) X (th_da dtX3_would 21 rfl) wfl_X3_33 iX3 rfl rfl (Nat.le_of_ble_eq_true rfl) rfl ?_
    obtain ⟨u5, h5, e5, hf⟩ := th_bd_some hf
    refine V_callVv (pc := 37) (q := 45) (As := []) X (th_da dtX3_would 22 rfl) (mX2_rise l 45 28 isW_45 _ _ _ e5) wcd_X2_rise wml_X3_187 wim_X2_rise wse_X2_rise win_X2_rise hd_X2_rise ⟨Nat.le_of_ble_eq_true rfl, Nat.le_of_ble_eq_true rfl⟩ (Nat.le_of_ble_eq_true rfl) rfl rfl rfl ?_
    refine V_aload_n (pc := 40) X (th_da dtX3_would 23 rfl) rfl ?_
    refine V_getR (pc := 41) (j := 4) (t := 45) X (th_da dtX3_would 24 rfl) wfl_X3_33 iX3 rfl rfl (Nat.le_of_ble_eq_true rfl) rfl ?_
    refine V_iload (pc := 44) X (th_da dtX3_would 25 rfl) rfl ?_
    obtain ⟨u6, h6, e6, hf⟩ := th_bd_some hf
    refine V_callVi (pc := 46) (q := 45) (As := [.int u4]) X (th_da dtX3_would 26 rfl) (mX2_rateOf l 45 28 isW_45 _ _ _ _ e6) wcd_X2_rateOf wml_X3_190 wim_X2_rateOf wse_X2_rateOf win_X2_rateOf hd_X2_rateOf ⟨Nat.le_of_ble_eq_true rfl, Nat.le_of_ble_eq_true rfl⟩ (Nat.le_of_ble_eq_true rfl) rfl rfl rfl ?_
    exact V_iretF (pc := 49) X (th_da dtX3_would 27 rfl) hf
  · rw [if_neg c2] at hf
    refine V_iconst (pc := 16) (v := (-1)) X (th_da dtX3_would 9 rfl) (by decide) ?_
    exact V_iretF (pc := 17) X (th_da dtX3_would 10 rfl) hf
end
def fX3_better (x1 : Int32) (x2 : Int32) (h : th_H) : Option (Int32 × th_H) :=
  th_bd (fX3_whyNotRoute x1 x2 h) fun u1 h1 =>
  if (u1 = (-1) : Prop) then
    th_bd (fX3_newSheet h1) fun _u3 h3 =>
    th_bd (fX0_setPath 28 x1 x2 h3) fun _u4 h4 =>
    th_bd (fX2_rise 45 28 h4) fun _u5 h5 =>
    th_bd (fX2_rateOf 45 28 x1 h5) fun u6 h6 =>
    some (u6, h6)
  else
    if (u1 = 2 : Prop) then
      th_bd (fX3_newSheet h1) fun _u8 h8 =>
      th_bd (fX0_setPath 28 x1 x2 h8) fun _u9 h9 =>
      th_bd (fX2_rise 45 28 h9) fun _u10 h10 =>
      th_bd (fX2_rateOf 45 28 x1 h10) fun u11 h11 =>
      some (u11, h11)
    else
      some ((-1), h1)
def tbX3_better : List (Nat × Instr × Nat) := [(0, .aload_n 0, 1), (1, .iload_n 1, 1), (2, .iload_n 2, 1), (3, .invokevirtual 126, 3), (6, .istore_n 3, 1), (7, .iload_n 3, 1), (8, .iconst (-1), 1), (9, .if_icmp .eq 10, 3), (12, .iload_n 3, 1), (13, .iconst 2, 1), (14, .if_icmp .eq 5, 3), (17, .iconst (-1), 1), (18, .ireturn, 1), (19, .aload_n 0, 1), (20, .invokevirtual 290, 3), (23, .iload_n 1, 1), (24, .iload_n 2, 1), (25, .invokevirtual 297, 3), (28, .aload_n 0, 1), (29, .getfield 33, 3), (32, .invokevirtual 187, 3), (35, .aload_n 0, 1), (36, .getfield 33, 3), (39, .iload_n 1, 1), (40, .invokevirtual 190, 3), (43, .ireturn, 1)]
theorem dtX3_better : th_dec cX3_better tbX3_better = true := by decide +kernel
section
variable {p0 : Program} {l : Launch} {e : Env} {s : State} {m : MethodId} {args : Array Value} {below : List Frame} {meth : Method} {c : Code} {D : va_G} {cI cZ : ClassId} {ad : Nat → Nat} {rr : Int32} {hh : th_H}
set_option maxHeartbeats 4000000 in
set_option maxRecDepth 100000 in
theorem mX3_better (l : Launch) (x1 : Int32) (x2 : Int32) (h : th_H) (rr : Int32) (hh : th_H) (hf : fX3_better x1 x2 h = some (rr, hh)) : th_MI l LC yX3_better cX3_better 4 (some .int) 5 121 [.ref 0, .int x1, .int x2] h (some (.int rr)) hh := by
  refine th_MI_of (ls := [.ref 0, .int x1, .int x2, .null]) RX3 rfl rfl rfl (Nat.le_of_ble_eq_true rfl) ?_
  intro p0 e s m args below meth c D cI cZ ad X
  unfold fX3_better at hf
  refine V_aload_n (pc := 0) X (th_da dtX3_better 0 rfl) rfl ?_
  refine V_iload_n (pc := 1) X (th_da dtX3_better 1 rfl) rfl ?_
  refine V_iload_n (pc := 2) X (th_da dtX3_better 2 rfl) rfl ?_
  obtain ⟨u1, h1, e1, hf⟩ := th_bd_some hf
  refine V_callVi (pc := 3) (q := 0) (As := [.int x1, .int x2]) X (th_da dtX3_better 3 rfl) (mX3_whyNotRoute l _ _ _ _ _ e1) wcd_X3_whyNotRoute wml_X3_126 wim_X3_whyNotRoute wse_X3_whyNotRoute win_X3_whyNotRoute hd_X3_whyNotRoute ⟨Nat.le_of_ble_eq_true rfl, Nat.le_of_ble_eq_true rfl⟩ (Nat.le_of_ble_eq_true rfl) rfl rfl rfl ?_
  refine V_istore_n (pc := 6) (ls2 := [.ref 0, .int x1, .int x2, .int u1]) X (th_da dtX3_better 4 rfl) (Nat.le_of_ble_eq_true rfl) rfl rfl ?_
  refine V_iload_n (pc := 7) X (th_da dtX3_better 5 rfl) rfl ?_
  refine V_iconst (pc := 8) (v := (-1)) X (th_da dtX3_better 6 rfl) (by decide) ?_
  refine V_icmp_eq (pc := 9) (tgt := 19) X (th_da dtX3_better 7 rfl) (by decide) (fun c2 => ?_) (fun c2 => ?_)
  · rw [if_pos c2] at hf
    refine V_aload_n (pc := 19) X (th_da dtX3_better 13 rfl) rfl ?_
    obtain ⟨u3, h3, e3, hf⟩ := th_bd_some hf
    refine V_callVr (pc := 20) (q := 0) (As := []) X (th_da dtX3_better 14 rfl) (mX3_newSheet l _ _ _ e3) wcd_X3_newSheet wml_X3_290 wim_X3_newSheet wse_X3_newSheet win_X3_newSheet hd_X3_newSheet ⟨Nat.le_of_ble_eq_true rfl, Nat.le_of_ble_eq_true rfl⟩ (Nat.le_of_ble_eq_true rfl) rfl rfl rfl ?_
    refine V_iload_n (pc := 23) X (th_da dtX3_better 15 rfl) rfl ?_
    refine V_iload_n (pc := 24) X (th_da dtX3_better 16 rfl) rfl ?_
    obtain ⟨u4, h4, e4, hf⟩ := th_bd_some hf
    refine V_callVv (pc := 25) (q := 28) (As := [.int x1, .int x2]) X (th_da dtX3_better 17 rfl) (mX0_setPath l 28 isP_28 _ _ _ _ _ e4) wcd_X0_setPath wml_X3_297 wim_X0_setPath wse_X0_setPath win_X0_setPath hd_X0_setPath ⟨Nat.le_of_ble_eq_true rfl, Nat.le_of_ble_eq_true rfl⟩ (Nat.le_of_ble_eq_true rfl) rfl rfl rfl ?_
    refine V_aload_n (pc := 28) X (th_da dtX3_better 18 rfl) rfl ?_
    refine V_getR (pc := 29) (j := 4) (t := 45) X (th_da dtX3_better 19 rfl) wfl_X3_33 iX3 rfl rfl (Nat.le_of_ble_eq_true rfl) rfl ?_
    obtain ⟨u5, h5, e5, hf⟩ := th_bd_some hf
    refine V_callVv (pc := 32) (q := 45) (As := []) X (th_da dtX3_better 20 rfl) (mX2_rise l 45 28 isW_45 _ _ _ e5) wcd_X2_rise wml_X3_187 wim_X2_rise wse_X2_rise win_X2_rise hd_X2_rise ⟨Nat.le_of_ble_eq_true rfl, Nat.le_of_ble_eq_true rfl⟩ (Nat.le_of_ble_eq_true rfl) rfl rfl rfl ?_
    refine V_aload_n (pc := 35) X (th_da dtX3_better 21 rfl) rfl ?_
    refine V_getR (pc := 36) (j := 4) (t := 45) X (th_da dtX3_better 22 rfl) wfl_X3_33 iX3 rfl rfl (Nat.le_of_ble_eq_true rfl) rfl ?_
    refine V_iload_n (pc := 39) X (th_da dtX3_better 23 rfl) rfl ?_
    obtain ⟨u6, h6, e6, hf⟩ := th_bd_some hf
    refine V_callVi (pc := 40) (q := 45) (As := [.int x1]) X (th_da dtX3_better 24 rfl) (mX2_rateOf l 45 28 isW_45 _ _ _ _ e6) wcd_X2_rateOf wml_X3_190 wim_X2_rateOf wse_X2_rateOf win_X2_rateOf hd_X2_rateOf ⟨Nat.le_of_ble_eq_true rfl, Nat.le_of_ble_eq_true rfl⟩ (Nat.le_of_ble_eq_true rfl) rfl rfl rfl ?_
    exact V_iretF (pc := 43) X (th_da dtX3_better 25 rfl) hf
  · rw [if_neg c2] at hf
    refine V_iload_n (pc := 12) X (th_da dtX3_better 8 rfl) rfl ?_
    refine V_iconst (pc := 13) (v := 2) X (th_da dtX3_better 9 rfl) (by decide) ?_
    refine V_icmp_eq (pc := 14) (tgt := 19) X (th_da dtX3_better 10 rfl) (by decide) (fun c7 => ?_) (fun c7 => ?_)
    · rw [if_pos c7] at hf
      refine V_aload_n (pc := 19) X (th_da dtX3_better 13 rfl) rfl ?_
      obtain ⟨u8, h8, e8, hf⟩ := th_bd_some hf
      refine V_callVr (pc := 20) (q := 0) (As := []) X (th_da dtX3_better 14 rfl) (mX3_newSheet l _ _ _ e8) wcd_X3_newSheet wml_X3_290 wim_X3_newSheet wse_X3_newSheet win_X3_newSheet hd_X3_newSheet ⟨Nat.le_of_ble_eq_true rfl, Nat.le_of_ble_eq_true rfl⟩ (Nat.le_of_ble_eq_true rfl) rfl rfl rfl ?_
      refine V_iload_n (pc := 23) X (th_da dtX3_better 15 rfl) rfl ?_
      refine V_iload_n (pc := 24) X (th_da dtX3_better 16 rfl) rfl ?_
      obtain ⟨u9, h9, e9, hf⟩ := th_bd_some hf
      refine V_callVv (pc := 25) (q := 28) (As := [.int x1, .int x2]) X (th_da dtX3_better 17 rfl) (mX0_setPath l 28 isP_28 _ _ _ _ _ e9) wcd_X0_setPath wml_X3_297 wim_X0_setPath wse_X0_setPath win_X0_setPath hd_X0_setPath ⟨Nat.le_of_ble_eq_true rfl, Nat.le_of_ble_eq_true rfl⟩ (Nat.le_of_ble_eq_true rfl) rfl rfl rfl ?_
      refine V_aload_n (pc := 28) X (th_da dtX3_better 18 rfl) rfl ?_
      refine V_getR (pc := 29) (j := 4) (t := 45) X (th_da dtX3_better 19 rfl) wfl_X3_33 iX3 rfl rfl (Nat.le_of_ble_eq_true rfl) rfl ?_
      obtain ⟨u10, h10, e10, hf⟩ := th_bd_some hf
      refine V_callVv (pc := 32) (q := 45) (As := []) X (th_da dtX3_better 20 rfl) (mX2_rise l 45 28 isW_45 _ _ _ e10) wcd_X2_rise wml_X3_187 wim_X2_rise wse_X2_rise win_X2_rise hd_X2_rise ⟨Nat.le_of_ble_eq_true rfl, Nat.le_of_ble_eq_true rfl⟩ (Nat.le_of_ble_eq_true rfl) rfl rfl rfl ?_
      refine V_aload_n (pc := 35) X (th_da dtX3_better 21 rfl) rfl ?_
      refine V_getR (pc := 36) (j := 4) (t := 45) X (th_da dtX3_better 22 rfl) wfl_X3_33 iX3 rfl rfl (Nat.le_of_ble_eq_true rfl) rfl ?_
      refine V_iload_n (pc := 39) X (th_da dtX3_better 23 rfl) rfl ?_
      obtain ⟨u11, h11, e11, hf⟩ := th_bd_some hf
      refine V_callVi (pc := 40) (q := 45) (As := [.int x1]) X (th_da dtX3_better 24 rfl) (mX2_rateOf l 45 28 isW_45 _ _ _ _ e11) wcd_X2_rateOf wml_X3_190 wim_X2_rateOf wse_X2_rateOf win_X2_rateOf hd_X2_rateOf ⟨Nat.le_of_ble_eq_true rfl, Nat.le_of_ble_eq_true rfl⟩ (Nat.le_of_ble_eq_true rfl) rfl rfl rfl ?_
      exact V_iretF (pc := 43) X (th_da dtX3_better 25 rfl) hf
    · rw [if_neg c7] at hf
      refine V_iconst (pc := 17) (v := (-1)) X (th_da dtX3_better 11 rfl) (by decide) ?_
      exact V_iretF (pc := 18) X (th_da dtX3_better 12 rfl) hf
end
def fX3_spares (x1 : Int32) (x2 : Int32) (h : th_H) : Option (Int32 × th_H) :=
  th_bd (fX0_has 2 x1 h) fun u1 h1 =>
  if (u1 = 0 : Prop) then
    some ((-2147483648), h1)
  else
    th_bd (fX3_isAmount x2 h1) fun u3 h3 =>
    if (u3 = 0 : Prop) then
      some ((-2147483648), h3)
    else
      th_rd h3 8 20 x1 fun v5 =>
      if (x2 < v5 : Prop) then
        some ((-2147483648), h3)
      else
        th_bd (fX3_newSheet h3) fun _u7 h7 =>
        th_bd (fX0_setPart 28 x1 2 x2 h7) fun _u8 h8 =>
        th_bd (fX2_rise 19 2 h8) fun _u9 h9 =>
        th_bd (fX2_rise 45 28 h9) fun _u10 h10 =>
        th_bd (fX2_ratesOf 45 28 ((h10.1 2 7) &&& (((1 : Int32) <<< (x1 &&& 31)) ^^^ (-1))) h10) fun u11 h11 =>
        th_bd (fX2_ratesOf 19 2 ((h10.1 2 7) &&& (((1 : Int32) <<< (x1 &&& 31)) ^^^ (-1))) h11) fun u12 h12 =>
        some (u11 - u12, h12)
def tbX3_spares : List (Nat × Instr × Nat) := [(0, .aload_n 0, 1), (1, .getfield 20, 3), (4, .iload_n 1, 1), (5, .invokevirtual 80, 3), (8, .ifCond .eq 23, 3), (11, .iload_n 2, 1), (12, .invokestatic 53, 3), (15, .ifCond .eq 16, 3), (18, .iload_n 2, 1), (19, .aload_n 0, 1), (20, .getfield 20, 3), (23, .getfield 103, 3), (26, .iload_n 1, 1), (27, .iaload, 1), (28, .if_icmp .ge 7, 3), (31, .ldc_w 300, 3), (34, .ireturn, 1), (35, .aload_n 0, 1), (36, .invokevirtual 290, 3), (39, .iload_n 1, 1), (40, .iconst 2, 1), (41, .iload_n 2, 1), (42, .invokevirtual 116, 3), (45, .aload_n 0, 1), (46, .getfield 26, 3), (49, .invokevirtual 187, 3), (52, .aload_n 0, 1), (53, .getfield 33, 3), (56, .invokevirtual 187, 3), (59, .aload_n 0, 1), (60, .getfield 20, 3), (63, .getfield 87, 3), (66, .iconst 1, 1), (67, .iload_n 1, 1), (68, .ishl, 1), (69, .iconst (-1), 1), (70, .ixor, 1), (71, .iand, 1), (72, .istore_n 3, 1), (73, .aload_n 0, 1), (74, .getfield 33, 3), (77, .iload_n 3, 1), (78, .invokevirtual 202, 3), (81, .aload_n 0, 1), (82, .getfield 26, 3), (85, .iload_n 3, 1), (86, .invokevirtual 202, 3), (89, .isub, 1), (90, .ireturn, 1)]
theorem dtX3_spares : th_dec cX3_spares tbX3_spares = true := by decide +kernel
section
variable {p0 : Program} {l : Launch} {e : Env} {s : State} {m : MethodId} {args : Array Value} {below : List Frame} {meth : Method} {c : Code} {D : va_G} {cI cZ : ClassId} {ad : Nat → Nat} {rr : Int32} {hh : th_H}
set_option maxHeartbeats 4000000 in
set_option maxRecDepth 100000 in
theorem mX3_spares (l : Launch) (x1 : Int32) (x2 : Int32) (h : th_H) (rr : Int32) (hh : th_H) (hf : fX3_spares x1 x2 h = some (rr, hh)) : th_MI l LC yX3_spares cX3_spares 4 (some .int) 5 121 [.ref 0, .int x1, .int x2] h (some (.int rr)) hh := by
  refine th_MI_of (ls := [.ref 0, .int x1, .int x2, .null]) RX3 rfl rfl rfl (Nat.le_of_ble_eq_true rfl) ?_
  intro p0 e s m args below meth c D cI cZ ad X
  unfold fX3_spares at hf
  refine V_aload_n (pc := 0) X (th_da dtX3_spares 0 rfl) rfl ?_
  refine V_getR (pc := 1) (j := 1) (t := 2) X (th_da dtX3_spares 1 rfl) wfl_X3_20 iX3 rfl rfl (Nat.le_of_ble_eq_true rfl) rfl ?_
  refine V_iload_n (pc := 4) X (th_da dtX3_spares 2 rfl) rfl ?_
  obtain ⟨u1, h1, e1, hf⟩ := th_bd_some hf
  refine V_callVi (pc := 5) (q := 2) (As := [.int x1]) X (th_da dtX3_spares 3 rfl) (mX0_has l 2 isP_2 _ _ _ _ e1) wcd_X0_has wml_X3_80 wim_X0_has wse_X0_has win_X0_has hd_X0_has ⟨Nat.le_of_ble_eq_true rfl, Nat.le_of_ble_eq_true rfl⟩ (Nat.le_of_ble_eq_true rfl) rfl rfl rfl ?_
  refine V_if_eq (pc := 8) (tgt := 31) X (th_da dtX3_spares 4 rfl) (by decide) (fun c2 => ?_) (fun c2 => ?_)
  · rw [if_pos c2] at hf
    refine V_ldcw (pc := 31) (v := (-2147483648)) X (th_da dtX3_spares 15 rfl) wco_X3_300 ?_
    exact V_iretF (pc := 34) X (th_da dtX3_spares 16 rfl) hf
  · rw [if_neg c2] at hf
    refine V_iload_n (pc := 11) X (th_da dtX3_spares 5 rfl) rfl ?_
    obtain ⟨u3, h3, e3, hf⟩ := th_bd_some hf
    refine V_callSi (pc := 12) (As := [.int x2]) X (th_da dtX3_spares 6 rfl) (mX3_isAmount l _ _ _ _ e3) wcd_X3_isAmount wml_X3_53 wst_X3_isAmount win_X3_isAmount hd_X3_isAmount ⟨Nat.le_of_ble_eq_true rfl, Nat.le_of_ble_eq_true rfl⟩ (Nat.le_of_ble_eq_true rfl) rfl ?_
    refine V_if_eq (pc := 15) (tgt := 31) X (th_da dtX3_spares 7 rfl) (by decide) (fun c4 => ?_) (fun c4 => ?_)
    · rw [if_pos c4] at hf
      refine V_ldcw (pc := 31) (v := (-2147483648)) X (th_da dtX3_spares 15 rfl) wco_X3_300 ?_
      exact V_iretF (pc := 34) X (th_da dtX3_spares 16 rfl) hf
    · rw [if_neg c4] at hf
      refine V_iload_n (pc := 18) X (th_da dtX3_spares 8 rfl) rfl ?_
      refine V_aload_n (pc := 19) X (th_da dtX3_spares 9 rfl) rfl ?_
      refine V_getR (pc := 20) (j := 1) (t := 2) X (th_da dtX3_spares 10 rfl) wfl_X3_20 iX3 rfl rfl (Nat.le_of_ble_eq_true rfl) rfl ?_
      refine V_getR (pc := 23) (j := 5) (t := 8) X (th_da dtX3_spares 11 rfl) wfl_X3_103 iX0 rfl rfl (Nat.le_of_ble_eq_true rfl) rfl ?_
      refine V_iload_n (pc := 26) X (th_da dtX3_spares 12 rfl) rfl ?_
      obtain ⟨v5, e5, g5, hf⟩ := th_rd_some hf
      refine V_iald (pc := 27) X (th_da dtX3_spares 13 rfl) rfl g5 e5 ?_
      refine V_icmp_ge (pc := 28) (tgt := 35) X (th_da dtX3_spares 14 rfl) (by decide) (fun c6 => ?_) (fun c6 => ?_)
      · rw [if_pos c6] at hf
        refine V_ldcw (pc := 31) (v := (-2147483648)) X (th_da dtX3_spares 15 rfl) wco_X3_300 ?_
        exact V_iretF (pc := 34) X (th_da dtX3_spares 16 rfl) hf
      · rw [if_neg c6] at hf
        refine V_aload_n (pc := 35) X (th_da dtX3_spares 17 rfl) rfl ?_
        obtain ⟨u7, h7, e7, hf⟩ := th_bd_some hf
        refine V_callVr (pc := 36) (q := 0) (As := []) X (th_da dtX3_spares 18 rfl) (mX3_newSheet l _ _ _ e7) wcd_X3_newSheet wml_X3_290 wim_X3_newSheet wse_X3_newSheet win_X3_newSheet hd_X3_newSheet ⟨Nat.le_of_ble_eq_true rfl, Nat.le_of_ble_eq_true rfl⟩ (Nat.le_of_ble_eq_true rfl) rfl rfl rfl ?_
        refine V_iload_n (pc := 39) X (th_da dtX3_spares 19 rfl) rfl ?_
        refine V_iconst (pc := 40) (v := 2) X (th_da dtX3_spares 20 rfl) (by decide) ?_
        refine V_iload_n (pc := 41) X (th_da dtX3_spares 21 rfl) rfl ?_
        obtain ⟨u8, h8, e8, hf⟩ := th_bd_some hf
        refine V_callVv (pc := 42) (q := 28) (As := [.int x1, .int 2, .int x2]) X (th_da dtX3_spares 22 rfl) (mX0_setPart l 28 isP_28 _ _ _ _ _ _ e8) wcd_X0_setPart wml_X3_116 wim_X0_setPart wse_X0_setPart win_X0_setPart hd_X0_setPart ⟨Nat.le_of_ble_eq_true rfl, Nat.le_of_ble_eq_true rfl⟩ (Nat.le_of_ble_eq_true rfl) rfl rfl rfl ?_
        refine V_aload_n (pc := 45) X (th_da dtX3_spares 23 rfl) rfl ?_
        refine V_getR (pc := 46) (j := 2) (t := 19) X (th_da dtX3_spares 24 rfl) wfl_X3_26 iX3 rfl rfl (Nat.le_of_ble_eq_true rfl) rfl ?_
        obtain ⟨u9, h9, e9, hf⟩ := th_bd_some hf
        refine V_callVv (pc := 49) (q := 19) (As := []) X (th_da dtX3_spares 25 rfl) (mX2_rise l 19 2 isW_19 _ _ _ e9) wcd_X2_rise wml_X3_187 wim_X2_rise wse_X2_rise win_X2_rise hd_X2_rise ⟨Nat.le_of_ble_eq_true rfl, Nat.le_of_ble_eq_true rfl⟩ (Nat.le_of_ble_eq_true rfl) rfl rfl rfl ?_
        refine V_aload_n (pc := 52) X (th_da dtX3_spares 26 rfl) rfl ?_
        refine V_getR (pc := 53) (j := 4) (t := 45) X (th_da dtX3_spares 27 rfl) wfl_X3_33 iX3 rfl rfl (Nat.le_of_ble_eq_true rfl) rfl ?_
        obtain ⟨u10, h10, e10, hf⟩ := th_bd_some hf
        refine V_callVv (pc := 56) (q := 45) (As := []) X (th_da dtX3_spares 28 rfl) (mX2_rise l 45 28 isW_45 _ _ _ e10) wcd_X2_rise wml_X3_187 wim_X2_rise wse_X2_rise win_X2_rise hd_X2_rise ⟨Nat.le_of_ble_eq_true rfl, Nat.le_of_ble_eq_true rfl⟩ (Nat.le_of_ble_eq_true rfl) rfl rfl rfl ?_
        refine V_aload_n (pc := 59) X (th_da dtX3_spares 29 rfl) rfl ?_
        refine V_getR (pc := 60) (j := 1) (t := 2) X (th_da dtX3_spares 30 rfl) wfl_X3_20 iX3 rfl rfl (Nat.le_of_ble_eq_true rfl) rfl ?_
        refine V_getI (pc := 63) (j := 7) X (th_da dtX3_spares 31 rfl) wfl_X3_87 iX0 rfl rfl (Nat.le_of_ble_eq_true rfl) rfl ?_
        refine V_iconst (pc := 66) (v := 1) X (th_da dtX3_spares 32 rfl) (by decide) ?_
        refine V_iload_n (pc := 67) X (th_da dtX3_spares 33 rfl) rfl ?_
        refine V_ishl (pc := 68) X (th_da dtX3_spares 34 rfl) ?_
        refine V_iconst (pc := 69) (v := (-1)) X (th_da dtX3_spares 35 rfl) (by decide) ?_
        refine V_ixor (pc := 70) X (th_da dtX3_spares 36 rfl) ?_
        refine V_iand (pc := 71) X (th_da dtX3_spares 37 rfl) ?_
        refine V_istore_n (pc := 72) (ls2 := [.ref 0, .int x1, .int x2, .int ((h10.1 2 7) &&& (((1 : Int32) <<< (x1 &&& 31)) ^^^ (-1)))]) X (th_da dtX3_spares 38 rfl) (Nat.le_of_ble_eq_true rfl) rfl rfl ?_
        refine V_aload_n (pc := 73) X (th_da dtX3_spares 39 rfl) rfl ?_
        refine V_getR (pc := 74) (j := 4) (t := 45) X (th_da dtX3_spares 40 rfl) wfl_X3_33 iX3 rfl rfl (Nat.le_of_ble_eq_true rfl) rfl ?_
        refine V_iload_n (pc := 77) X (th_da dtX3_spares 41 rfl) rfl ?_
        obtain ⟨u11, h11, e11, hf⟩ := th_bd_some hf
        refine V_callVi (pc := 78) (q := 45) (As := [.int ((h10.1 2 7) &&& (((1 : Int32) <<< (x1 &&& 31)) ^^^ (-1)))]) X (th_da dtX3_spares 42 rfl) (mX2_ratesOf l 45 28 isW_45 _ _ _ _ e11) wcd_X2_ratesOf wml_X3_202 wim_X2_ratesOf wse_X2_ratesOf win_X2_ratesOf hd_X2_ratesOf ⟨Nat.le_of_ble_eq_true rfl, Nat.le_of_ble_eq_true rfl⟩ (Nat.le_of_ble_eq_true rfl) rfl rfl rfl ?_
        refine V_aload_n (pc := 81) X (th_da dtX3_spares 43 rfl) rfl ?_
        refine V_getR (pc := 82) (j := 2) (t := 19) X (th_da dtX3_spares 44 rfl) wfl_X3_26 iX3 rfl rfl (Nat.le_of_ble_eq_true rfl) rfl ?_
        refine V_iload_n (pc := 85) X (th_da dtX3_spares 45 rfl) rfl ?_
        obtain ⟨u12, h12, e12, hf⟩ := th_bd_some hf
        refine V_callVi (pc := 86) (q := 19) (As := [.int ((h10.1 2 7) &&& (((1 : Int32) <<< (x1 &&& 31)) ^^^ (-1)))]) X (th_da dtX3_spares 46 rfl) (mX2_ratesOf l 19 2 isW_19 _ _ _ _ e12) wcd_X2_ratesOf wml_X3_202 wim_X2_ratesOf wse_X2_ratesOf win_X2_ratesOf hd_X2_ratesOf ⟨Nat.le_of_ble_eq_true rfl, Nat.le_of_ble_eq_true rfl⟩ (Nat.le_of_ble_eq_true rfl) rfl rfl rfl ?_
        refine V_isub (pc := 89) X (th_da dtX3_spares 47 rfl) ?_
        exact V_iretF (pc := 90) X (th_da dtX3_spares 48 rfl) hf
end
def fX3_weightFor_c21 : Nat → Int32 → Int32 → Int32 → th_H → Option (Int32 × th_H)
  | 0, _, _, _, _ => none
  | n + 1, y1, y2, y4, h =>
    if (9 < y4 : Prop) then
      some ((-1), h)
    else
      th_bd (fX0_setPart 28 y1 0 y4 h) fun _u2 h2 =>
      th_bd (fX2_rise 45 28 h2) fun _u3 h3 =>
      th_bd (fX2_rateOf 45 28 y1 h3) fun u4 h4 =>
      if (u4 < y2 : Prop) then
        fX3_weightFor_c21 n y1 y2 (y4 + 1) h4
      else
        some (y4, h4)
def fX3_weightFor (x1 : Int32) (x2 : Int32) (h : th_H) : Option (Int32 × th_H) :=
  th_bd (fX0_has 2 x1 h) fun u1 h1 =>
  if (u1 = 0 : Prop) then
    some ((-1), h1)
  else
    th_bd (fX3_newSheet h1) fun _u3 h3 =>
    fX3_weightFor_c21 1000 x1 x2 1 h3
def tbX3_weightFor : List (Nat × Instr × Nat) := [(0, .aload_n 0, 1), (1, .getfield 20, 3), (4, .iload_n 1, 1), (5, .invokevirtual 80, 3), (8, .ifCond .ne 5, 3), (11, .iconst (-1), 1), (12, .ireturn, 1), (13, .aload_n 0, 1), (14, .invokevirtual 290, 3), (17, .astore_n 3, 1), (18, .iconst 1, 1), (19, .istore 4, 2), (21, .iload 4, 2), (23, .bipush 9, 2), (25, .if_icmp .gt 39, 3), (28, .aload_n 3, 1), (29, .iload_n 1, 1), (30, .iconst 0, 1), (31, .iload 4, 2), (33, .invokevirtual 116, 3), (36, .aload_n 0, 1), (37, .getfield 33, 3), (40, .invokevirtual 187, 3), (43, .aload_n 0, 1), (44, .getfield 33, 3), (47, .iload_n 1, 1), (48, .invokevirtual 190, 3), (51, .iload_n 2, 1), (52, .if_icmp .lt 6, 3), (55, .iload 4, 2), (57, .ireturn, 1), (58, .iinc 4 1, 3), (61, .goto (-40), 3), (64, .iconst (-1), 1), (65, .ireturn, 1)]
theorem dtX3_weightFor : th_dec cX3_weightFor tbX3_weightFor = true := by decide +kernel
section
variable {p0 : Program} {l : Launch} {e : Env} {s : State} {m : MethodId} {args : Array Value} {below : List Frame} {meth : Method} {c : Code} {D : va_G} {cI cZ : ClassId} {ad : Nat → Nat} {rr : Int32} {hh : th_H}
set_option maxHeartbeats 4000000 in
set_option maxRecDepth 100000 in
theorem tX3_weightFor_c21 (X : th_X p0 s m args meth c D cI cZ ad LC 5 RX3 cX3_weightFor (some .int)) : ∀ (n : Nat) (y1 : Int32) (y2 : Int32) (y4 : Int32) (h : th_H), fX3_weightFor_c21 n y1 y2 y4 h = some (rr, hh) → th_V p0 l e { frames := 5, cells := 0, slots := 0, locals := 121 } s m args below meth c D cI cZ ad LC 5 (some (.int rr)) hh 21 [.ref 0, .int y1, .int y2, .ref 28, .int y4] [] h := by
  intro n
  induction n with
  | zero => intro y1 y2 y4 h hf; cases hf
  | succ n ih =>
    intro y1 y2 y4 h hf
    rw [fX3_weightFor_c21] at hf
    refine V_iload (pc := 21) X (th_da dtX3_weightFor 12 rfl) rfl ?_
    refine V_bipush (pc := 23) (v := 9) X (th_da dtX3_weightFor 13 rfl) (by decide) ?_
    refine V_icmp_gt (pc := 25) (tgt := 64) X (th_da dtX3_weightFor 14 rfl) (by decide) (fun c1 => ?_) (fun c1 => ?_)
    · rw [if_pos c1] at hf
      refine V_iconst (pc := 64) (v := (-1)) X (th_da dtX3_weightFor 33 rfl) (by decide) ?_
      exact V_iretF (pc := 65) X (th_da dtX3_weightFor 34 rfl) hf
    · rw [if_neg c1] at hf
      refine V_aload_n (pc := 28) X (th_da dtX3_weightFor 15 rfl) rfl ?_
      refine V_iload_n (pc := 29) X (th_da dtX3_weightFor 16 rfl) rfl ?_
      refine V_iconst (pc := 30) (v := 0) X (th_da dtX3_weightFor 17 rfl) (by decide) ?_
      refine V_iload (pc := 31) X (th_da dtX3_weightFor 18 rfl) rfl ?_
      obtain ⟨u2, h2, e2, hf⟩ := th_bd_some hf
      refine V_callVv (pc := 33) (q := 28) (As := [.int y1, .int 0, .int y4]) X (th_da dtX3_weightFor 19 rfl) (mX0_setPart l 28 isP_28 _ _ _ _ _ _ e2) wcd_X0_setPart wml_X3_116 wim_X0_setPart wse_X0_setPart win_X0_setPart hd_X0_setPart ⟨Nat.le_of_ble_eq_true rfl, Nat.le_of_ble_eq_true rfl⟩ (Nat.le_of_ble_eq_true rfl) rfl rfl rfl ?_
      refine V_aload_n (pc := 36) X (th_da dtX3_weightFor 20 rfl) rfl ?_
      refine V_getR (pc := 37) (j := 4) (t := 45) X (th_da dtX3_weightFor 21 rfl) wfl_X3_33 iX3 rfl rfl (Nat.le_of_ble_eq_true rfl) rfl ?_
      obtain ⟨u3, h3, e3, hf⟩ := th_bd_some hf
      refine V_callVv (pc := 40) (q := 45) (As := []) X (th_da dtX3_weightFor 22 rfl) (mX2_rise l 45 28 isW_45 _ _ _ e3) wcd_X2_rise wml_X3_187 wim_X2_rise wse_X2_rise win_X2_rise hd_X2_rise ⟨Nat.le_of_ble_eq_true rfl, Nat.le_of_ble_eq_true rfl⟩ (Nat.le_of_ble_eq_true rfl) rfl rfl rfl ?_
      refine V_aload_n (pc := 43) X (th_da dtX3_weightFor 23 rfl) rfl ?_
      refine V_getR (pc := 44) (j := 4) (t := 45) X (th_da dtX3_weightFor 24 rfl) wfl_X3_33 iX3 rfl rfl (Nat.le_of_ble_eq_true rfl) rfl ?_
      refine V_iload_n (pc := 47) X (th_da dtX3_weightFor 25 rfl) rfl ?_
      obtain ⟨u4, h4, e4, hf⟩ := th_bd_some hf
      refine V_callVi (pc := 48) (q := 45) (As := [.int y1]) X (th_da dtX3_weightFor 26 rfl) (mX2_rateOf l 45 28 isW_45 _ _ _ _ e4) wcd_X2_rateOf wml_X3_190 wim_X2_rateOf wse_X2_rateOf win_X2_rateOf hd_X2_rateOf ⟨Nat.le_of_ble_eq_true rfl, Nat.le_of_ble_eq_true rfl⟩ (Nat.le_of_ble_eq_true rfl) rfl rfl rfl ?_
      refine V_iload_n (pc := 51) X (th_da dtX3_weightFor 27 rfl) rfl ?_
      refine V_icmp_lt (pc := 52) (tgt := 58) X (th_da dtX3_weightFor 28 rfl) (by decide) (fun c5 => ?_) (fun c5 => ?_)
      · rw [if_pos c5] at hf
        refine V_iinc (pc := 58) (v := y4 + 1) (ls2 := [.ref 0, .int y1, .int y2, .ref 28, .int (y4 + 1)]) X (th_da dtX3_weightFor 31 rfl) rfl rfl (Nat.le_of_ble_eq_true rfl) rfl rfl ?_
        refine V_goto (pc := 61) (tgt := 21) X (th_da dtX3_weightFor 32 rfl) (by decide) ?_
        exact ih _ _ _ _ hf
      · rw [if_neg c5] at hf
        refine V_iload (pc := 55) X (th_da dtX3_weightFor 29 rfl) rfl ?_
        exact V_iretF (pc := 57) X (th_da dtX3_weightFor 30 rfl) hf
set_option maxHeartbeats 4000000 in
set_option maxRecDepth 100000 in
theorem mX3_weightFor (l : Launch) (x1 : Int32) (x2 : Int32) (h : th_H) (rr : Int32) (hh : th_H) (hf : fX3_weightFor x1 x2 h = some (rr, hh)) : th_MI l LC yX3_weightFor cX3_weightFor 5 (some .int) 5 121 [.ref 0, .int x1, .int x2] h (some (.int rr)) hh := by
  refine th_MI_of (ls := [.ref 0, .int x1, .int x2, .null, .null]) RX3 rfl rfl rfl (Nat.le_of_ble_eq_true rfl) ?_
  intro p0 e s m args below meth c D cI cZ ad X
  unfold fX3_weightFor at hf
  refine V_aload_n (pc := 0) X (th_da dtX3_weightFor 0 rfl) rfl ?_
  refine V_getR (pc := 1) (j := 1) (t := 2) X (th_da dtX3_weightFor 1 rfl) wfl_X3_20 iX3 rfl rfl (Nat.le_of_ble_eq_true rfl) rfl ?_
  refine V_iload_n (pc := 4) X (th_da dtX3_weightFor 2 rfl) rfl ?_
  obtain ⟨u1, h1, e1, hf⟩ := th_bd_some hf
  refine V_callVi (pc := 5) (q := 2) (As := [.int x1]) X (th_da dtX3_weightFor 3 rfl) (mX0_has l 2 isP_2 _ _ _ _ e1) wcd_X0_has wml_X3_80 wim_X0_has wse_X0_has win_X0_has hd_X0_has ⟨Nat.le_of_ble_eq_true rfl, Nat.le_of_ble_eq_true rfl⟩ (Nat.le_of_ble_eq_true rfl) rfl rfl rfl ?_
  refine V_if_ne (pc := 8) (tgt := 13) X (th_da dtX3_weightFor 4 rfl) (by decide) (fun c2 => ?_) (fun c2 => ?_)
  · rw [if_pos c2] at hf
    refine V_iconst (pc := 11) (v := (-1)) X (th_da dtX3_weightFor 5 rfl) (by decide) ?_
    exact V_iretF (pc := 12) X (th_da dtX3_weightFor 6 rfl) hf
  · rw [if_neg c2] at hf
    refine V_aload_n (pc := 13) X (th_da dtX3_weightFor 7 rfl) rfl ?_
    obtain ⟨u3, h3, e3, hf⟩ := th_bd_some hf
    refine V_callVr (pc := 14) (q := 0) (As := []) X (th_da dtX3_weightFor 8 rfl) (mX3_newSheet l _ _ _ e3) wcd_X3_newSheet wml_X3_290 wim_X3_newSheet wse_X3_newSheet win_X3_newSheet hd_X3_newSheet ⟨Nat.le_of_ble_eq_true rfl, Nat.le_of_ble_eq_true rfl⟩ (Nat.le_of_ble_eq_true rfl) rfl rfl rfl ?_
    refine V_astore_n (pc := 17) (ls2 := [.ref 0, .int x1, .int x2, .ref 28, .null]) X (th_da dtX3_weightFor 9 rfl) (Nat.le_of_ble_eq_true rfl) rfl rfl ?_
    refine V_iconst (pc := 18) (v := 1) X (th_da dtX3_weightFor 10 rfl) (by decide) ?_
    refine V_istore (pc := 19) (ls2 := [.ref 0, .int x1, .int x2, .ref 28, .int 1]) X (th_da dtX3_weightFor 11 rfl) (Nat.le_of_ble_eq_true rfl) rfl rfl ?_
    exact tX3_weightFor_c21 X _ _ _ _ _ hf
end
def fX3_roomFor_c26 : Nat → Int32 → Int32 → Int32 → th_H → Option (Int32 × th_H)
  | 0, _, _, _, _ => none
  | n + 1, y1, y2, y3, h =>
    if (y3 < 10 : Prop) then
      if (((y1 >>> (y3 &&& 31)) &&& 1) = 0 : Prop) then
        fX3_roomFor_c26 n y1 y2 (y3 + 1) h
      else
        th_rd h 3 10 y3 fun v3 =>
        th_bd (fX0_boundOf 2 y3 h) fun u4 h4 =>
        fX3_roomFor_c26 n y1 (th_mn y2 (v3 - u4)) (y3 + 1) h4
    else
      some (y2, h)
def fX3_roomFor (x1 : Int32) (h : th_H) : Option (Int32 × th_H) :=
  th_bd (fX3_isPath x1 h) fun u1 h1 =>
  if (u1 = 0 : Prop) then
    some ((-1), h1)
  else
    th_bd (fX0_freeNumber 2 h1) fun u3 h3 =>
    if (u3 = (-1) : Prop) then
      some ((-1), h3)
    else
      fX3_roomFor_c26 1000 x1 1000000 0 h3
def tbX3_roomFor : List (Nat × Instr × Nat) := [(0, .iload_n 1, 1), (1, .invokestatic 301, 3), (4, .ifCond .eq 14, 3), (7, .aload_n 0, 1), (8, .getfield 20, 3), (11, .invokevirtual 304, 3), (14, .iconst (-1), 1), (15, .if_icmp .ne 5, 3), (18, .iconst (-1), 1), (19, .ireturn, 1), (20, .ldc_w 277, 3), (23, .istore_n 2, 1), (24, .iconst 0, 1), (25, .istore_n 3, 1), (26, .iload_n 3, 1), (27, .bipush 10, 2), (29, .if_icmp .ge 40, 3), (32, .iload_n 1, 1), (33, .iload_n 3, 1), (34, .ishr, 1), (35, .iconst 1, 1), (36, .iand, 1), (37, .ifCond .eq 26, 3), (40, .iload_n 2, 1), (41, .aload_n 0, 1), (42, .getfield 20, 3), (45, .getfield 60, 3), (48, .iload_n 3, 1), (49, .iaload, 1), (50, .aload_n 0, 1), (51, .getfield 20, 3), (54, .iload_n 3, 1), (55, .invokevirtual 65, 3), (58, .isub, 1), (59, .invokestatic 283, 3), (62, .istore_n 2, 1), (63, .iinc 3 1, 3), (66, .goto (-40), 3), (69, .iload_n 2, 1), (70, .ireturn, 1)]
theorem dtX3_roomFor : th_dec cX3_roomFor tbX3_roomFor = true := by decide +kernel
section
variable {p0 : Program} {l : Launch} {e : Env} {s : State} {m : MethodId} {args : Array Value} {below : List Frame} {meth : Method} {c : Code} {D : va_G} {cI cZ : ClassId} {ad : Nat → Nat} {rr : Int32} {hh : th_H}
set_option maxHeartbeats 4000000 in
set_option maxRecDepth 100000 in
theorem tX3_roomFor_c26 (X : th_X p0 s m args meth c D cI cZ ad LC 4 RX3 cX3_roomFor (some .int)) : ∀ (n : Nat) (y1 : Int32) (y2 : Int32) (y3 : Int32) (h : th_H), fX3_roomFor_c26 n y1 y2 y3 h = some (rr, hh) → th_V p0 l e { frames := 2, cells := 0, slots := 0, locals := 42 } s m args below meth c D cI cZ ad LC 4 (some (.int rr)) hh 26 [.ref 0, .int y1, .int y2, .int y3] [] h := by
  intro n
  induction n with
  | zero => intro y1 y2 y3 h hf; cases hf
  | succ n ih =>
    intro y1 y2 y3 h hf
    rw [fX3_roomFor_c26] at hf
    refine V_iload_n (pc := 26) X (th_da dtX3_roomFor 14 rfl) rfl ?_
    refine V_bipush (pc := 27) (v := 10) X (th_da dtX3_roomFor 15 rfl) (by decide) ?_
    refine V_icmp_ge (pc := 29) (tgt := 69) X (th_da dtX3_roomFor 16 rfl) (by decide) (fun c1 => ?_) (fun c1 => ?_)
    · rw [if_pos c1] at hf
      refine V_iload_n (pc := 32) X (th_da dtX3_roomFor 17 rfl) rfl ?_
      refine V_iload_n (pc := 33) X (th_da dtX3_roomFor 18 rfl) rfl ?_
      refine V_ishr (pc := 34) X (th_da dtX3_roomFor 19 rfl) ?_
      refine V_iconst (pc := 35) (v := 1) X (th_da dtX3_roomFor 20 rfl) (by decide) ?_
      refine V_iand (pc := 36) X (th_da dtX3_roomFor 21 rfl) ?_
      refine V_if_eq (pc := 37) (tgt := 63) X (th_da dtX3_roomFor 22 rfl) (by decide) (fun c2 => ?_) (fun c2 => ?_)
      · rw [if_pos c2] at hf
        refine V_iinc (pc := 63) (v := y3 + 1) (ls2 := [.ref 0, .int y1, .int y2, .int (y3 + 1)]) X (th_da dtX3_roomFor 36 rfl) rfl rfl (Nat.le_of_ble_eq_true rfl) rfl rfl ?_
        refine V_goto (pc := 66) (tgt := 26) X (th_da dtX3_roomFor 37 rfl) (by decide) ?_
        exact ih _ _ _ _ hf
      · rw [if_neg c2] at hf
        refine V_iload_n (pc := 40) X (th_da dtX3_roomFor 23 rfl) rfl ?_
        refine V_aload_n (pc := 41) X (th_da dtX3_roomFor 24 rfl) rfl ?_
        refine V_getR (pc := 42) (j := 1) (t := 2) X (th_da dtX3_roomFor 25 rfl) wfl_X3_20 iX3 rfl rfl (Nat.le_of_ble_eq_true rfl) rfl ?_
        refine V_getR (pc := 45) (j := 0) (t := 3) X (th_da dtX3_roomFor 26 rfl) wfl_X3_60 iX0 rfl rfl (Nat.le_of_ble_eq_true rfl) rfl ?_
        refine V_iload_n (pc := 48) X (th_da dtX3_roomFor 27 rfl) rfl ?_
        obtain ⟨v3, e3, g3, hf⟩ := th_rd_some hf
        refine V_iald (pc := 49) X (th_da dtX3_roomFor 28 rfl) rfl g3 e3 ?_
        refine V_aload_n (pc := 50) X (th_da dtX3_roomFor 29 rfl) rfl ?_
        refine V_getR (pc := 51) (j := 1) (t := 2) X (th_da dtX3_roomFor 30 rfl) wfl_X3_20 iX3 rfl rfl (Nat.le_of_ble_eq_true rfl) rfl ?_
        refine V_iload_n (pc := 54) X (th_da dtX3_roomFor 31 rfl) rfl ?_
        obtain ⟨u4, h4, e4, hf⟩ := th_bd_some hf
        refine V_callVi (pc := 55) (q := 2) (As := [.int y3]) X (th_da dtX3_roomFor 32 rfl) (mX0_boundOf l 2 isP_2 _ _ _ _ e4) wcd_X0_boundOf wml_X3_65 wim_X0_boundOf wse_X0_boundOf win_X0_boundOf hd_X0_boundOf ⟨Nat.le_of_ble_eq_true rfl, Nat.le_of_ble_eq_true rfl⟩ (Nat.le_of_ble_eq_true rfl) rfl rfl rfl ?_
        refine V_isub (pc := 58) X (th_da dtX3_roomFor 33 rfl) ?_
        refine V_mmin (pc := 59) X (th_da dtX3_roomFor 34 rfl) wml_X3_283 wst_J9_min_7cf53 win_J9_min_7cf53 wcd_J9_min_7cf53 (Nat.le_of_ble_eq_true rfl) (Nat.le_of_ble_eq_true rfl) ?_
        refine V_istore_n (pc := 62) (ls2 := [.ref 0, .int y1, .int (th_mn y2 (v3 - u4)), .int y3]) X (th_da dtX3_roomFor 35 rfl) (Nat.le_of_ble_eq_true rfl) rfl rfl ?_
        refine V_iinc (pc := 63) (v := y3 + 1) (ls2 := [.ref 0, .int y1, .int (th_mn y2 (v3 - u4)), .int (y3 + 1)]) X (th_da dtX3_roomFor 36 rfl) rfl rfl (Nat.le_of_ble_eq_true rfl) rfl rfl ?_
        refine V_goto (pc := 66) (tgt := 26) X (th_da dtX3_roomFor 37 rfl) (by decide) ?_
        exact ih _ _ _ _ hf
    · rw [if_neg c1] at hf
      refine V_iload_n (pc := 69) X (th_da dtX3_roomFor 38 rfl) rfl ?_
      exact V_iretF (pc := 70) X (th_da dtX3_roomFor 39 rfl) hf
set_option maxHeartbeats 4000000 in
set_option maxRecDepth 100000 in
theorem mX3_roomFor (l : Launch) (x1 : Int32) (h : th_H) (rr : Int32) (hh : th_H) (hf : fX3_roomFor x1 h = some (rr, hh)) : th_MI l LC yX3_roomFor cX3_roomFor 4 (some .int) 2 42 [.ref 0, .int x1] h (some (.int rr)) hh := by
  refine th_MI_of (ls := [.ref 0, .int x1, .null, .null]) RX3 rfl rfl rfl (Nat.le_of_ble_eq_true rfl) ?_
  intro p0 e s m args below meth c D cI cZ ad X
  unfold fX3_roomFor at hf
  refine V_iload_n (pc := 0) X (th_da dtX3_roomFor 0 rfl) rfl ?_
  obtain ⟨u1, h1, e1, hf⟩ := th_bd_some hf
  refine V_callSi (pc := 1) (As := [.int x1]) X (th_da dtX3_roomFor 1 rfl) (mX3_isPath l _ _ _ _ e1) wcd_X3_isPath wml_X3_301 wst_X3_isPath win_X3_isPath hd_X3_isPath ⟨Nat.le_of_ble_eq_true rfl, Nat.le_of_ble_eq_true rfl⟩ (Nat.le_of_ble_eq_true rfl) rfl ?_
  refine V_if_eq (pc := 4) (tgt := 18) X (th_da dtX3_roomFor 2 rfl) (by decide) (fun c2 => ?_) (fun c2 => ?_)
  · rw [if_pos c2] at hf
    refine V_iconst (pc := 18) (v := (-1)) X (th_da dtX3_roomFor 8 rfl) (by decide) ?_
    exact V_iretF (pc := 19) X (th_da dtX3_roomFor 9 rfl) hf
  · rw [if_neg c2] at hf
    refine V_aload_n (pc := 7) X (th_da dtX3_roomFor 3 rfl) rfl ?_
    refine V_getR (pc := 8) (j := 1) (t := 2) X (th_da dtX3_roomFor 4 rfl) wfl_X3_20 iX3 rfl rfl (Nat.le_of_ble_eq_true rfl) rfl ?_
    obtain ⟨u3, h3, e3, hf⟩ := th_bd_some hf
    refine V_callVi (pc := 11) (q := 2) (As := []) X (th_da dtX3_roomFor 5 rfl) (mX0_freeNumber l 2 isP_2 _ _ _ e3) wcd_X0_freeNumber wml_X3_304 wim_X0_freeNumber wse_X0_freeNumber win_X0_freeNumber hd_X0_freeNumber ⟨Nat.le_of_ble_eq_true rfl, Nat.le_of_ble_eq_true rfl⟩ (Nat.le_of_ble_eq_true rfl) rfl rfl rfl ?_
    refine V_iconst (pc := 14) (v := (-1)) X (th_da dtX3_roomFor 6 rfl) (by decide) ?_
    refine V_icmp_ne (pc := 15) (tgt := 20) X (th_da dtX3_roomFor 7 rfl) (by decide) (fun c4 => ?_) (fun c4 => ?_)
    · rw [if_pos c4] at hf
      refine V_iconst (pc := 18) (v := (-1)) X (th_da dtX3_roomFor 8 rfl) (by decide) ?_
      exact V_iretF (pc := 19) X (th_da dtX3_roomFor 9 rfl) hf
    · rw [if_neg c4] at hf
      refine V_ldcw (pc := 20) (v := 1000000) X (th_da dtX3_roomFor 10 rfl) wco_X3_277 ?_
      refine V_istore_n (pc := 23) (ls2 := [.ref 0, .int x1, .int 1000000, .null]) X (th_da dtX3_roomFor 11 rfl) (Nat.le_of_ble_eq_true rfl) rfl rfl ?_
      refine V_iconst (pc := 24) (v := 0) X (th_da dtX3_roomFor 12 rfl) (by decide) ?_
      refine V_istore_n (pc := 25) (ls2 := [.ref 0, .int x1, .int 1000000, .int 0]) X (th_da dtX3_roomFor 13 rfl) (Nat.le_of_ble_eq_true rfl) rfl rfl ?_
      exact tX3_roomFor_c26 X _ _ _ _ _ hf
end
def fX3_otherLevels_c18 : Nat → Int32 → Int32 → th_H → Option (Int32 × th_H)
  | 0, _, _, _ => none
  | n + 1, y1, y2, h =>
    if (y2 < 20 : Prop) then
      th_bd (fX0_has 2 y2 h) fun u2 h2 =>
      if (u2 = 0 : Prop) then
        fX3_otherLevels_c18 n y1 (y2 + 1) h2
      else
        th_rd h2 46 20 y2 fun v4 =>
        th_rd h2 20 20 y2 fun v5 =>
        if (v4 = v5 : Prop) then
          fX3_otherLevels_c18 n y1 (y2 + 1) h2
        else
          fX3_otherLevels_c18 n (y1 ||| ((1 : Int32) <<< (y2 &&& 31))) (y2 + 1) h2
    else
      some (y1, h)
def fX3_otherLevels (h : th_H) : Option (Int32 × th_H) :=
  th_bd (fX2_rise 19 2 h) fun _u1 h1 =>
  th_bd (fX2_rise 45 28 h1) fun _u2 h2 =>
  fX3_otherLevels_c18 1000 0 0 h2
def tbX3_otherLevels : List (Nat × Instr × Nat) := [(0, .aload_n 0, 1), (1, .getfield 26, 3), (4, .invokevirtual 187, 3), (7, .aload_n 0, 1), (8, .getfield 33, 3), (11, .invokevirtual 187, 3), (14, .iconst 0, 1), (15, .istore_n 1, 1), (16, .iconst 0, 1), (17, .istore_n 2, 1), (18, .iload_n 2, 1), (19, .bipush 20, 2), (21, .if_icmp .ge 47, 3), (24, .aload_n 0, 1), (25, .getfield 20, 3), (28, .iload_n 2, 1), (29, .invokevirtual 80, 3), (32, .ifCond .eq 30, 3), (35, .aload_n 0, 1), (36, .getfield 33, 3), (39, .getfield 193, 3), (42, .iload_n 2, 1), (43, .iaload, 1), (44, .aload_n 0, 1), (45, .getfield 26, 3), (48, .getfield 193, 3), (51, .iload_n 2, 1), (52, .iaload, 1), (53, .if_icmp .eq 9, 3), (56, .iload_n 1, 1), (57, .iconst 1, 1), (58, .iload_n 2, 1), (59, .ishl, 1), (60, .ior, 1), (61, .istore_n 1, 1), (62, .iinc 2 1, 3), (65, .goto (-47), 3), (68, .iload_n 1, 1), (69, .ireturn, 1)]
theorem dtX3_otherLevels : th_dec cX3_otherLevels tbX3_otherLevels = true := by decide +kernel
section
variable {p0 : Program} {l : Launch} {e : Env} {s : State} {m : MethodId} {args : Array Value} {below : List Frame} {meth : Method} {c : Code} {D : va_G} {cI cZ : ClassId} {ad : Nat → Nat} {rr : Int32} {hh : th_H}
set_option maxHeartbeats 4000000 in
set_option maxRecDepth 100000 in
theorem tX3_otherLevels_c18 (X : th_X p0 s m args meth c D cI cZ ad LC 3 RX3 cX3_otherLevels (some .int)) : ∀ (n : Nat) (y1 : Int32) (y2 : Int32) (h : th_H), fX3_otherLevels_c18 n y1 y2 h = some (rr, hh) → th_V p0 l e { frames := 5, cells := 0, slots := 0, locals := 121 } s m args below meth c D cI cZ ad LC 3 (some (.int rr)) hh 18 [.ref 0, .int y1, .int y2] [] h := by
  intro n
  induction n with
  | zero => intro y1 y2 h hf; cases hf
  | succ n ih =>
    intro y1 y2 h hf
    rw [fX3_otherLevels_c18] at hf
    refine V_iload_n (pc := 18) X (th_da dtX3_otherLevels 10 rfl) rfl ?_
    refine V_bipush (pc := 19) (v := 20) X (th_da dtX3_otherLevels 11 rfl) (by decide) ?_
    refine V_icmp_ge (pc := 21) (tgt := 68) X (th_da dtX3_otherLevels 12 rfl) (by decide) (fun c1 => ?_) (fun c1 => ?_)
    · rw [if_pos c1] at hf
      refine V_aload_n (pc := 24) X (th_da dtX3_otherLevels 13 rfl) rfl ?_
      refine V_getR (pc := 25) (j := 1) (t := 2) X (th_da dtX3_otherLevels 14 rfl) wfl_X3_20 iX3 rfl rfl (Nat.le_of_ble_eq_true rfl) rfl ?_
      refine V_iload_n (pc := 28) X (th_da dtX3_otherLevels 15 rfl) rfl ?_
      obtain ⟨u2, h2, e2, hf⟩ := th_bd_some hf
      refine V_callVi (pc := 29) (q := 2) (As := [.int y2]) X (th_da dtX3_otherLevels 16 rfl) (mX0_has l 2 isP_2 _ _ _ _ e2) wcd_X0_has wml_X3_80 wim_X0_has wse_X0_has win_X0_has hd_X0_has ⟨Nat.le_of_ble_eq_true rfl, Nat.le_of_ble_eq_true rfl⟩ (Nat.le_of_ble_eq_true rfl) rfl rfl rfl ?_
      refine V_if_eq (pc := 32) (tgt := 62) X (th_da dtX3_otherLevels 17 rfl) (by decide) (fun c3 => ?_) (fun c3 => ?_)
      · rw [if_pos c3] at hf
        refine V_iinc (pc := 62) (v := y2 + 1) (ls2 := [.ref 0, .int y1, .int (y2 + 1)]) X (th_da dtX3_otherLevels 35 rfl) rfl rfl (Nat.le_of_ble_eq_true rfl) rfl rfl ?_
        refine V_goto (pc := 65) (tgt := 18) X (th_da dtX3_otherLevels 36 rfl) (by decide) ?_
        exact ih _ _ _ hf
      · rw [if_neg c3] at hf
        refine V_aload_n (pc := 35) X (th_da dtX3_otherLevels 18 rfl) rfl ?_
        refine V_getR (pc := 36) (j := 4) (t := 45) X (th_da dtX3_otherLevels 19 rfl) wfl_X3_33 iX3 rfl rfl (Nat.le_of_ble_eq_true rfl) rfl ?_
        refine V_getR (pc := 39) (j := 1) (t := 46) X (th_da dtX3_otherLevels 20 rfl) wfl_X3_193 iX2 rfl rfl (Nat.le_of_ble_eq_true rfl) rfl ?_
        refine V_iload_n (pc := 42) X (th_da dtX3_otherLevels 21 rfl) rfl ?_
        obtain ⟨v4, e4, g4, hf⟩ := th_rd_some hf
        refine V_iald (pc := 43) X (th_da dtX3_otherLevels 22 rfl) rfl g4 e4 ?_
        refine V_aload_n (pc := 44) X (th_da dtX3_otherLevels 23 rfl) rfl ?_
        refine V_getR (pc := 45) (j := 2) (t := 19) X (th_da dtX3_otherLevels 24 rfl) wfl_X3_26 iX3 rfl rfl (Nat.le_of_ble_eq_true rfl) rfl ?_
        refine V_getR (pc := 48) (j := 1) (t := 20) X (th_da dtX3_otherLevels 25 rfl) wfl_X3_193 iX2 rfl rfl (Nat.le_of_ble_eq_true rfl) rfl ?_
        refine V_iload_n (pc := 51) X (th_da dtX3_otherLevels 26 rfl) rfl ?_
        obtain ⟨v5, e5, g5, hf⟩ := th_rd_some hf
        refine V_iald (pc := 52) X (th_da dtX3_otherLevels 27 rfl) rfl g5 e5 ?_
        refine V_icmp_eq (pc := 53) (tgt := 62) X (th_da dtX3_otherLevels 28 rfl) (by decide) (fun c6 => ?_) (fun c6 => ?_)
        · rw [if_pos c6] at hf
          refine V_iinc (pc := 62) (v := y2 + 1) (ls2 := [.ref 0, .int y1, .int (y2 + 1)]) X (th_da dtX3_otherLevels 35 rfl) rfl rfl (Nat.le_of_ble_eq_true rfl) rfl rfl ?_
          refine V_goto (pc := 65) (tgt := 18) X (th_da dtX3_otherLevels 36 rfl) (by decide) ?_
          exact ih _ _ _ hf
        · rw [if_neg c6] at hf
          refine V_iload_n (pc := 56) X (th_da dtX3_otherLevels 29 rfl) rfl ?_
          refine V_iconst (pc := 57) (v := 1) X (th_da dtX3_otherLevels 30 rfl) (by decide) ?_
          refine V_iload_n (pc := 58) X (th_da dtX3_otherLevels 31 rfl) rfl ?_
          refine V_ishl (pc := 59) X (th_da dtX3_otherLevels 32 rfl) ?_
          refine V_ior (pc := 60) X (th_da dtX3_otherLevels 33 rfl) ?_
          refine V_istore_n (pc := 61) (ls2 := [.ref 0, .int (y1 ||| ((1 : Int32) <<< (y2 &&& 31))), .int y2]) X (th_da dtX3_otherLevels 34 rfl) (Nat.le_of_ble_eq_true rfl) rfl rfl ?_
          refine V_iinc (pc := 62) (v := y2 + 1) (ls2 := [.ref 0, .int (y1 ||| ((1 : Int32) <<< (y2 &&& 31))), .int (y2 + 1)]) X (th_da dtX3_otherLevels 35 rfl) rfl rfl (Nat.le_of_ble_eq_true rfl) rfl rfl ?_
          refine V_goto (pc := 65) (tgt := 18) X (th_da dtX3_otherLevels 36 rfl) (by decide) ?_
          exact ih _ _ _ hf
    · rw [if_neg c1] at hf
      refine V_iload_n (pc := 68) X (th_da dtX3_otherLevels 37 rfl) rfl ?_
      exact V_iretF (pc := 69) X (th_da dtX3_otherLevels 38 rfl) hf
set_option maxHeartbeats 4000000 in
set_option maxRecDepth 100000 in
theorem mX3_otherLevels (l : Launch) (h : th_H) (rr : Int32) (hh : th_H) (hf : fX3_otherLevels h = some (rr, hh)) : th_MI l LC yX3_otherLevels cX3_otherLevels 3 (some .int) 5 121 [.ref 0] h (some (.int rr)) hh := by
  refine th_MI_of (ls := [.ref 0, .null, .null]) RX3 rfl rfl rfl (Nat.le_of_ble_eq_true rfl) ?_
  intro p0 e s m args below meth c D cI cZ ad X
  unfold fX3_otherLevels at hf
  refine V_aload_n (pc := 0) X (th_da dtX3_otherLevels 0 rfl) rfl ?_
  refine V_getR (pc := 1) (j := 2) (t := 19) X (th_da dtX3_otherLevels 1 rfl) wfl_X3_26 iX3 rfl rfl (Nat.le_of_ble_eq_true rfl) rfl ?_
  obtain ⟨u1, h1, e1, hf⟩ := th_bd_some hf
  refine V_callVv (pc := 4) (q := 19) (As := []) X (th_da dtX3_otherLevels 2 rfl) (mX2_rise l 19 2 isW_19 _ _ _ e1) wcd_X2_rise wml_X3_187 wim_X2_rise wse_X2_rise win_X2_rise hd_X2_rise ⟨Nat.le_of_ble_eq_true rfl, Nat.le_of_ble_eq_true rfl⟩ (Nat.le_of_ble_eq_true rfl) rfl rfl rfl ?_
  refine V_aload_n (pc := 7) X (th_da dtX3_otherLevels 3 rfl) rfl ?_
  refine V_getR (pc := 8) (j := 4) (t := 45) X (th_da dtX3_otherLevels 4 rfl) wfl_X3_33 iX3 rfl rfl (Nat.le_of_ble_eq_true rfl) rfl ?_
  obtain ⟨u2, h2, e2, hf⟩ := th_bd_some hf
  refine V_callVv (pc := 11) (q := 45) (As := []) X (th_da dtX3_otherLevels 5 rfl) (mX2_rise l 45 28 isW_45 _ _ _ e2) wcd_X2_rise wml_X3_187 wim_X2_rise wse_X2_rise win_X2_rise hd_X2_rise ⟨Nat.le_of_ble_eq_true rfl, Nat.le_of_ble_eq_true rfl⟩ (Nat.le_of_ble_eq_true rfl) rfl rfl rfl ?_
  refine V_iconst (pc := 14) (v := 0) X (th_da dtX3_otherLevels 6 rfl) (by decide) ?_
  refine V_istore_n (pc := 15) (ls2 := [.ref 0, .int 0, .null]) X (th_da dtX3_otherLevels 7 rfl) (Nat.le_of_ble_eq_true rfl) rfl rfl ?_
  refine V_iconst (pc := 16) (v := 0) X (th_da dtX3_otherLevels 8 rfl) (by decide) ?_
  refine V_istore_n (pc := 17) (ls2 := [.ref 0, .int 0, .int 0]) X (th_da dtX3_otherLevels 9 rfl) (Nat.le_of_ble_eq_true rfl) rfl rfl ?_
  exact tX3_otherLevels_c18 X _ _ _ _ hf
end
def fX3_touched (x1 : Int32) (h : th_H) : Option (Int32 × th_H) :=
  th_bd (fX3_isLink x1 h) fun u1 h1 =>
  if (u1 = 0 : Prop) then
    some ((-1), h1)
  else
    th_rd h1 3 10 x1 fun v3 =>
    th_bd (fX0_boundOf 2 x1 h1) fun u4 h4 =>
    if (u4 < v3 : Prop) then
      th_bd (fX3_newSheet h4) fun _u6 h6 =>
      th_rd h6 3 10 x1 fun v7 =>
      th_bd (fX0_setCapacity 28 x1 (v7 - 1) h6) fun _u8 h8 =>
      th_bd (fX3_otherLevels h8) fun u9 h9 =>
      some (u9, h9)
    else
      some ((-1), h4)
def tbX3_touched : List (Nat × Instr × Nat) := [(0, .iload_n 1, 1), (1, .invokestatic 49, 3), (4, .ifCond .eq 23, 3), (7, .aload_n 0, 1), (8, .getfield 20, 3), (11, .getfield 60, 3), (14, .iload_n 1, 1), (15, .iaload, 1), (16, .aload_n 0, 1), (17, .getfield 20, 3), (20, .iload_n 1, 1), (21, .invokevirtual 65, 3), (24, .if_icmp .gt 5, 3), (27, .iconst (-1), 1), (28, .ireturn, 1), (29, .aload_n 0, 1), (30, .invokevirtual 290, 3), (33, .iload_n 1, 1), (34, .aload_n 0, 1), (35, .getfield 20, 3), (38, .getfield 60, 3), (41, .iload_n 1, 1), (42, .iaload, 1), (43, .iconst 1, 1), (44, .isub, 1), (45, .invokevirtual 68, 3), (48, .aload_n 0, 1), (49, .invokevirtual 307, 3), (52, .ireturn, 1)]
theorem dtX3_touched : th_dec cX3_touched tbX3_touched = true := by decide +kernel
section
variable {p0 : Program} {l : Launch} {e : Env} {s : State} {m : MethodId} {args : Array Value} {below : List Frame} {meth : Method} {c : Code} {D : va_G} {cI cZ : ClassId} {ad : Nat → Nat} {rr : Int32} {hh : th_H}
set_option maxHeartbeats 4000000 in
set_option maxRecDepth 100000 in
theorem mX3_touched (l : Launch) (x1 : Int32) (h : th_H) (rr : Int32) (hh : th_H) (hf : fX3_touched x1 h = some (rr, hh)) : th_MI l LC yX3_touched cX3_touched 2 (some .int) 6 143 [.ref 0, .int x1] h (some (.int rr)) hh := by
  refine th_MI_of (ls := [.ref 0, .int x1]) RX3 rfl rfl rfl (Nat.le_of_ble_eq_true rfl) ?_
  intro p0 e s m args below meth c D cI cZ ad X
  unfold fX3_touched at hf
  refine V_iload_n (pc := 0) X (th_da dtX3_touched 0 rfl) rfl ?_
  obtain ⟨u1, h1, e1, hf⟩ := th_bd_some hf
  refine V_callSi (pc := 1) (As := [.int x1]) X (th_da dtX3_touched 1 rfl) (mX3_isLink l _ _ _ _ e1) wcd_X3_isLink wml_X3_49 wst_X3_isLink win_X3_isLink hd_X3_isLink ⟨Nat.le_of_ble_eq_true rfl, Nat.le_of_ble_eq_true rfl⟩ (Nat.le_of_ble_eq_true rfl) rfl ?_
  refine V_if_eq (pc := 4) (tgt := 27) X (th_da dtX3_touched 2 rfl) (by decide) (fun c2 => ?_) (fun c2 => ?_)
  · rw [if_pos c2] at hf
    refine V_iconst (pc := 27) (v := (-1)) X (th_da dtX3_touched 13 rfl) (by decide) ?_
    exact V_iretF (pc := 28) X (th_da dtX3_touched 14 rfl) hf
  · rw [if_neg c2] at hf
    refine V_aload_n (pc := 7) X (th_da dtX3_touched 3 rfl) rfl ?_
    refine V_getR (pc := 8) (j := 1) (t := 2) X (th_da dtX3_touched 4 rfl) wfl_X3_20 iX3 rfl rfl (Nat.le_of_ble_eq_true rfl) rfl ?_
    refine V_getR (pc := 11) (j := 0) (t := 3) X (th_da dtX3_touched 5 rfl) wfl_X3_60 iX0 rfl rfl (Nat.le_of_ble_eq_true rfl) rfl ?_
    refine V_iload_n (pc := 14) X (th_da dtX3_touched 6 rfl) rfl ?_
    obtain ⟨v3, e3, g3, hf⟩ := th_rd_some hf
    refine V_iald (pc := 15) X (th_da dtX3_touched 7 rfl) rfl g3 e3 ?_
    refine V_aload_n (pc := 16) X (th_da dtX3_touched 8 rfl) rfl ?_
    refine V_getR (pc := 17) (j := 1) (t := 2) X (th_da dtX3_touched 9 rfl) wfl_X3_20 iX3 rfl rfl (Nat.le_of_ble_eq_true rfl) rfl ?_
    refine V_iload_n (pc := 20) X (th_da dtX3_touched 10 rfl) rfl ?_
    obtain ⟨u4, h4, e4, hf⟩ := th_bd_some hf
    refine V_callVi (pc := 21) (q := 2) (As := [.int x1]) X (th_da dtX3_touched 11 rfl) (mX0_boundOf l 2 isP_2 _ _ _ _ e4) wcd_X0_boundOf wml_X3_65 wim_X0_boundOf wse_X0_boundOf win_X0_boundOf hd_X0_boundOf ⟨Nat.le_of_ble_eq_true rfl, Nat.le_of_ble_eq_true rfl⟩ (Nat.le_of_ble_eq_true rfl) rfl rfl rfl ?_
    refine V_icmp_gt (pc := 24) (tgt := 29) X (th_da dtX3_touched 12 rfl) (by decide) (fun c5 => ?_) (fun c5 => ?_)
    · rw [if_pos c5] at hf
      refine V_aload_n (pc := 29) X (th_da dtX3_touched 15 rfl) rfl ?_
      obtain ⟨u6, h6, e6, hf⟩ := th_bd_some hf
      refine V_callVr (pc := 30) (q := 0) (As := []) X (th_da dtX3_touched 16 rfl) (mX3_newSheet l _ _ _ e6) wcd_X3_newSheet wml_X3_290 wim_X3_newSheet wse_X3_newSheet win_X3_newSheet hd_X3_newSheet ⟨Nat.le_of_ble_eq_true rfl, Nat.le_of_ble_eq_true rfl⟩ (Nat.le_of_ble_eq_true rfl) rfl rfl rfl ?_
      refine V_iload_n (pc := 33) X (th_da dtX3_touched 17 rfl) rfl ?_
      refine V_aload_n (pc := 34) X (th_da dtX3_touched 18 rfl) rfl ?_
      refine V_getR (pc := 35) (j := 1) (t := 2) X (th_da dtX3_touched 19 rfl) wfl_X3_20 iX3 rfl rfl (Nat.le_of_ble_eq_true rfl) rfl ?_
      refine V_getR (pc := 38) (j := 0) (t := 3) X (th_da dtX3_touched 20 rfl) wfl_X3_60 iX0 rfl rfl (Nat.le_of_ble_eq_true rfl) rfl ?_
      refine V_iload_n (pc := 41) X (th_da dtX3_touched 21 rfl) rfl ?_
      obtain ⟨v7, e7, g7, hf⟩ := th_rd_some hf
      refine V_iald (pc := 42) X (th_da dtX3_touched 22 rfl) rfl g7 e7 ?_
      refine V_iconst (pc := 43) (v := 1) X (th_da dtX3_touched 23 rfl) (by decide) ?_
      refine V_isub (pc := 44) X (th_da dtX3_touched 24 rfl) ?_
      obtain ⟨u8, h8, e8, hf⟩ := th_bd_some hf
      refine V_callVv (pc := 45) (q := 28) (As := [.int x1, .int (v7 - 1)]) X (th_da dtX3_touched 25 rfl) (mX0_setCapacity l 28 isP_28 _ _ _ _ _ e8) wcd_X0_setCapacity wml_X3_68 wim_X0_setCapacity wse_X0_setCapacity win_X0_setCapacity hd_X0_setCapacity ⟨Nat.le_of_ble_eq_true rfl, Nat.le_of_ble_eq_true rfl⟩ (Nat.le_of_ble_eq_true rfl) rfl rfl rfl ?_
      refine V_aload_n (pc := 48) X (th_da dtX3_touched 26 rfl) rfl ?_
      obtain ⟨u9, h9, e9, hf⟩ := th_bd_some hf
      refine V_callVi (pc := 49) (q := 0) (As := []) X (th_da dtX3_touched 27 rfl) (mX3_otherLevels l _ _ _ e9) wcd_X3_otherLevels wml_X3_307 wim_X3_otherLevels wse_X3_otherLevels win_X3_otherLevels hd_X3_otherLevels ⟨Nat.le_of_ble_eq_true rfl, Nat.le_of_ble_eq_true rfl⟩ (Nat.le_of_ble_eq_true rfl) rfl rfl rfl ?_
      exact V_iretF (pc := 52) X (th_da dtX3_touched 28 rfl) hf
    · rw [if_neg c5] at hf
      refine V_iconst (pc := 27) (v := (-1)) X (th_da dtX3_touched 13 rfl) (by decide) ?_
      exact V_iretF (pc := 28) X (th_da dtX3_touched 14 rfl) hf
end
def fX3_without (x1 : Int32) (x2 : Int32) (h : th_H) : Option (Int32 × th_H) :=
  th_bd (fX0_has 2 x1 h) fun u1 h1 =>
  if (u1 = 0 : Prop) then
    some ((-2147483648), h1)
  else
    th_bd (fX0_has 2 x2 h1) fun u3 h3 =>
    if (u3 = 0 : Prop) then
      some ((-2147483648), h3)
    else
      if (x1 = x2 : Prop) then
        some ((-2147483648), h3)
      else
        th_bd (fX3_newSheet h3) fun _u6 h6 =>
        th_bd (fX0_remove 28 x1 h6) fun _u7 h7 =>
        th_bd (fX2_rise 19 2 h7) fun _u8 h8 =>
        th_bd (fX2_rise 45 28 h8) fun _u9 h9 =>
        th_bd (fX2_rateOf 45 28 x2 h9) fun u10 h10 =>
        th_bd (fX2_rateOf 19 2 x2 h10) fun u11 h11 =>
        some (u10 - u11, h11)
def tbX3_without : List (Nat × Instr × Nat) := [(0, .aload_n 0, 1), (1, .getfield 20, 3), (4, .iload_n 1, 1), (5, .invokevirtual 80, 3), (8, .ifCond .eq 19, 3), (11, .aload_n 0, 1), (12, .getfield 20, 3), (15, .iload_n 2, 1), (16, .invokevirtual 80, 3), (19, .ifCond .eq 8, 3), (22, .iload_n 1, 1), (23, .iload_n 2, 1), (24, .if_icmp .ne 7, 3), (27, .ldc_w 300, 3), (30, .ireturn, 1), (31, .aload_n 0, 1), (32, .invokevirtual 290, 3), (35, .iload_n 1, 1), (36, .invokevirtual 310, 3), (39, .aload_n 0, 1), (40, .getfield 26, 3), (43, .invokevirtual 187, 3), (46, .aload_n 0, 1), (47, .getfield 33, 3), (50, .invokevirtual 187, 3), (53, .aload_n 0, 1), (54, .getfield 33, 3), (57, .iload_n 2, 1), (58, .invokevirtual 190, 3), (61, .aload_n 0, 1), (62, .getfield 26, 3), (65, .iload_n 2, 1), (66, .invokevirtual 190, 3), (69, .isub, 1), (70, .ireturn, 1)]
theorem dtX3_without : th_dec cX3_without tbX3_without = true := by decide +kernel
section
variable {p0 : Program} {l : Launch} {e : Env} {s : State} {m : MethodId} {args : Array Value} {below : List Frame} {meth : Method} {c : Code} {D : va_G} {cI cZ : ClassId} {ad : Nat → Nat} {rr : Int32} {hh : th_H}
set_option maxHeartbeats 4000000 in
set_option maxRecDepth 100000 in
theorem mX3_without (l : Launch) (x1 : Int32) (x2 : Int32) (h : th_H) (rr : Int32) (hh : th_H) (hf : fX3_without x1 x2 h = some (rr, hh)) : th_MI l LC yX3_without cX3_without 3 (some .int) 5 121 [.ref 0, .int x1, .int x2] h (some (.int rr)) hh := by
  refine th_MI_of (ls := [.ref 0, .int x1, .int x2]) RX3 rfl rfl rfl (Nat.le_of_ble_eq_true rfl) ?_
  intro p0 e s m args below meth c D cI cZ ad X
  unfold fX3_without at hf
  refine V_aload_n (pc := 0) X (th_da dtX3_without 0 rfl) rfl ?_
  refine V_getR (pc := 1) (j := 1) (t := 2) X (th_da dtX3_without 1 rfl) wfl_X3_20 iX3 rfl rfl (Nat.le_of_ble_eq_true rfl) rfl ?_
  refine V_iload_n (pc := 4) X (th_da dtX3_without 2 rfl) rfl ?_
  obtain ⟨u1, h1, e1, hf⟩ := th_bd_some hf
  refine V_callVi (pc := 5) (q := 2) (As := [.int x1]) X (th_da dtX3_without 3 rfl) (mX0_has l 2 isP_2 _ _ _ _ e1) wcd_X0_has wml_X3_80 wim_X0_has wse_X0_has win_X0_has hd_X0_has ⟨Nat.le_of_ble_eq_true rfl, Nat.le_of_ble_eq_true rfl⟩ (Nat.le_of_ble_eq_true rfl) rfl rfl rfl ?_
  refine V_if_eq (pc := 8) (tgt := 27) X (th_da dtX3_without 4 rfl) (by decide) (fun c2 => ?_) (fun c2 => ?_)
  · rw [if_pos c2] at hf
    refine V_ldcw (pc := 27) (v := (-2147483648)) X (th_da dtX3_without 13 rfl) wco_X3_300 ?_
    exact V_iretF (pc := 30) X (th_da dtX3_without 14 rfl) hf
  · rw [if_neg c2] at hf
    refine V_aload_n (pc := 11) X (th_da dtX3_without 5 rfl) rfl ?_
    refine V_getR (pc := 12) (j := 1) (t := 2) X (th_da dtX3_without 6 rfl) wfl_X3_20 iX3 rfl rfl (Nat.le_of_ble_eq_true rfl) rfl ?_
    refine V_iload_n (pc := 15) X (th_da dtX3_without 7 rfl) rfl ?_
    obtain ⟨u3, h3, e3, hf⟩ := th_bd_some hf
    refine V_callVi (pc := 16) (q := 2) (As := [.int x2]) X (th_da dtX3_without 8 rfl) (mX0_has l 2 isP_2 _ _ _ _ e3) wcd_X0_has wml_X3_80 wim_X0_has wse_X0_has win_X0_has hd_X0_has ⟨Nat.le_of_ble_eq_true rfl, Nat.le_of_ble_eq_true rfl⟩ (Nat.le_of_ble_eq_true rfl) rfl rfl rfl ?_
    refine V_if_eq (pc := 19) (tgt := 27) X (th_da dtX3_without 9 rfl) (by decide) (fun c4 => ?_) (fun c4 => ?_)
    · rw [if_pos c4] at hf
      refine V_ldcw (pc := 27) (v := (-2147483648)) X (th_da dtX3_without 13 rfl) wco_X3_300 ?_
      exact V_iretF (pc := 30) X (th_da dtX3_without 14 rfl) hf
    · rw [if_neg c4] at hf
      refine V_iload_n (pc := 22) X (th_da dtX3_without 10 rfl) rfl ?_
      refine V_iload_n (pc := 23) X (th_da dtX3_without 11 rfl) rfl ?_
      refine V_icmp_ne (pc := 24) (tgt := 31) X (th_da dtX3_without 12 rfl) (by decide) (fun c5 => ?_) (fun c5 => ?_)
      · rw [if_pos c5] at hf
        refine V_ldcw (pc := 27) (v := (-2147483648)) X (th_da dtX3_without 13 rfl) wco_X3_300 ?_
        exact V_iretF (pc := 30) X (th_da dtX3_without 14 rfl) hf
      · rw [if_neg c5] at hf
        refine V_aload_n (pc := 31) X (th_da dtX3_without 15 rfl) rfl ?_
        obtain ⟨u6, h6, e6, hf⟩ := th_bd_some hf
        refine V_callVr (pc := 32) (q := 0) (As := []) X (th_da dtX3_without 16 rfl) (mX3_newSheet l _ _ _ e6) wcd_X3_newSheet wml_X3_290 wim_X3_newSheet wse_X3_newSheet win_X3_newSheet hd_X3_newSheet ⟨Nat.le_of_ble_eq_true rfl, Nat.le_of_ble_eq_true rfl⟩ (Nat.le_of_ble_eq_true rfl) rfl rfl rfl ?_
        refine V_iload_n (pc := 35) X (th_da dtX3_without 17 rfl) rfl ?_
        obtain ⟨u7, h7, e7, hf⟩ := th_bd_some hf
        refine V_callVv (pc := 36) (q := 28) (As := [.int x1]) X (th_da dtX3_without 18 rfl) (mX0_remove l 28 isP_28 _ _ _ _ e7) wcd_X0_remove wml_X3_310 wim_X0_remove wse_X0_remove win_X0_remove hd_X0_remove ⟨Nat.le_of_ble_eq_true rfl, Nat.le_of_ble_eq_true rfl⟩ (Nat.le_of_ble_eq_true rfl) rfl rfl rfl ?_
        refine V_aload_n (pc := 39) X (th_da dtX3_without 19 rfl) rfl ?_
        refine V_getR (pc := 40) (j := 2) (t := 19) X (th_da dtX3_without 20 rfl) wfl_X3_26 iX3 rfl rfl (Nat.le_of_ble_eq_true rfl) rfl ?_
        obtain ⟨u8, h8, e8, hf⟩ := th_bd_some hf
        refine V_callVv (pc := 43) (q := 19) (As := []) X (th_da dtX3_without 21 rfl) (mX2_rise l 19 2 isW_19 _ _ _ e8) wcd_X2_rise wml_X3_187 wim_X2_rise wse_X2_rise win_X2_rise hd_X2_rise ⟨Nat.le_of_ble_eq_true rfl, Nat.le_of_ble_eq_true rfl⟩ (Nat.le_of_ble_eq_true rfl) rfl rfl rfl ?_
        refine V_aload_n (pc := 46) X (th_da dtX3_without 22 rfl) rfl ?_
        refine V_getR (pc := 47) (j := 4) (t := 45) X (th_da dtX3_without 23 rfl) wfl_X3_33 iX3 rfl rfl (Nat.le_of_ble_eq_true rfl) rfl ?_
        obtain ⟨u9, h9, e9, hf⟩ := th_bd_some hf
        refine V_callVv (pc := 50) (q := 45) (As := []) X (th_da dtX3_without 24 rfl) (mX2_rise l 45 28 isW_45 _ _ _ e9) wcd_X2_rise wml_X3_187 wim_X2_rise wse_X2_rise win_X2_rise hd_X2_rise ⟨Nat.le_of_ble_eq_true rfl, Nat.le_of_ble_eq_true rfl⟩ (Nat.le_of_ble_eq_true rfl) rfl rfl rfl ?_
        refine V_aload_n (pc := 53) X (th_da dtX3_without 25 rfl) rfl ?_
        refine V_getR (pc := 54) (j := 4) (t := 45) X (th_da dtX3_without 26 rfl) wfl_X3_33 iX3 rfl rfl (Nat.le_of_ble_eq_true rfl) rfl ?_
        refine V_iload_n (pc := 57) X (th_da dtX3_without 27 rfl) rfl ?_
        obtain ⟨u10, h10, e10, hf⟩ := th_bd_some hf
        refine V_callVi (pc := 58) (q := 45) (As := [.int x2]) X (th_da dtX3_without 28 rfl) (mX2_rateOf l 45 28 isW_45 _ _ _ _ e10) wcd_X2_rateOf wml_X3_190 wim_X2_rateOf wse_X2_rateOf win_X2_rateOf hd_X2_rateOf ⟨Nat.le_of_ble_eq_true rfl, Nat.le_of_ble_eq_true rfl⟩ (Nat.le_of_ble_eq_true rfl) rfl rfl rfl ?_
        refine V_aload_n (pc := 61) X (th_da dtX3_without 29 rfl) rfl ?_
        refine V_getR (pc := 62) (j := 2) (t := 19) X (th_da dtX3_without 30 rfl) wfl_X3_26 iX3 rfl rfl (Nat.le_of_ble_eq_true rfl) rfl ?_
        refine V_iload_n (pc := 65) X (th_da dtX3_without 31 rfl) rfl ?_
        obtain ⟨u11, h11, e11, hf⟩ := th_bd_some hf
        refine V_callVi (pc := 66) (q := 19) (As := [.int x2]) X (th_da dtX3_without 32 rfl) (mX2_rateOf l 19 2 isW_19 _ _ _ _ e11) wcd_X2_rateOf wml_X3_190 wim_X2_rateOf wse_X2_rateOf win_X2_rateOf hd_X2_rateOf ⟨Nat.le_of_ble_eq_true rfl, Nat.le_of_ble_eq_true rfl⟩ (Nat.le_of_ble_eq_true rfl) rfl rfl rfl ?_
        refine V_isub (pc := 69) X (th_da dtX3_without 33 rfl) ?_
        exact V_iretF (pc := 70) X (th_da dtX3_without 34 rfl) hf
end
def fX3_widen (x1 : Int32) (x2 : Int32) (h : th_H) : Option (Unit × th_H) :=
  th_rd h 3 10 x1 fun v1 =>
  th_bd (fX3_newSheet h) fun _u2 h2 =>
  th_bd (fX0_setCapacity 28 x1 (v1 + (th_mn x2 ((1000000 : Int32) - v1))) h2) fun _u3 h3 =>
  th_bd (fX2_rise 45 28 h3) fun _u4 h4 =>
  some ((), h4)
def tbX3_widen : List (Nat × Instr × Nat) := [(0, .aload_n 0, 1), (1, .getfield 20, 3), (4, .getfield 60, 3), (7, .iload_n 1, 1), (8, .iaload, 1), (9, .istore_n 3, 1), (10, .aload_n 0, 1), (11, .invokevirtual 290, 3), (14, .iload_n 1, 1), (15, .iload_n 3, 1), (16, .iload_n 2, 1), (17, .ldc_w 277, 3), (20, .iload_n 3, 1), (21, .isub, 1), (22, .invokestatic 283, 3), (25, .iadd, 1), (26, .invokevirtual 68, 3), (29, .aload_n 0, 1), (30, .getfield 33, 3), (33, .invokevirtual 187, 3), (36, .return_, 1)]
theorem dtX3_widen : th_dec cX3_widen tbX3_widen = true := by decide +kernel
section
variable {p0 : Program} {l : Launch} {e : Env} {s : State} {m : MethodId} {args : Array Value} {below : List Frame} {meth : Method} {c : Code} {D : va_G} {cI cZ : ClassId} {ad : Nat → Nat} {rr : Unit} {hh : th_H}
set_option maxHeartbeats 4000000 in
set_option maxRecDepth 100000 in
theorem mX3_widen (l : Launch) (x1 : Int32) (x2 : Int32) (h : th_H) (rr : Unit) (hh : th_H) (hf : fX3_widen x1 x2 h = some (rr, hh)) : th_MI l LC yX3_widen cX3_widen 4 none 5 121 [.ref 0, .int x1, .int x2] h none hh := by
  refine th_MI_of (ls := [.ref 0, .int x1, .int x2, .null]) RX3 rfl rfl rfl (Nat.le_of_ble_eq_true rfl) ?_
  intro p0 e s m args below meth c D cI cZ ad X
  unfold fX3_widen at hf
  refine V_aload_n (pc := 0) X (th_da dtX3_widen 0 rfl) rfl ?_
  refine V_getR (pc := 1) (j := 1) (t := 2) X (th_da dtX3_widen 1 rfl) wfl_X3_20 iX3 rfl rfl (Nat.le_of_ble_eq_true rfl) rfl ?_
  refine V_getR (pc := 4) (j := 0) (t := 3) X (th_da dtX3_widen 2 rfl) wfl_X3_60 iX0 rfl rfl (Nat.le_of_ble_eq_true rfl) rfl ?_
  refine V_iload_n (pc := 7) X (th_da dtX3_widen 3 rfl) rfl ?_
  obtain ⟨v1, e1, g1, hf⟩ := th_rd_some hf
  refine V_iald (pc := 8) X (th_da dtX3_widen 4 rfl) rfl g1 e1 ?_
  refine V_istore_n (pc := 9) (ls2 := [.ref 0, .int x1, .int x2, .int v1]) X (th_da dtX3_widen 5 rfl) (Nat.le_of_ble_eq_true rfl) rfl rfl ?_
  refine V_aload_n (pc := 10) X (th_da dtX3_widen 6 rfl) rfl ?_
  obtain ⟨u2, h2, e2, hf⟩ := th_bd_some hf
  refine V_callVr (pc := 11) (q := 0) (As := []) X (th_da dtX3_widen 7 rfl) (mX3_newSheet l _ _ _ e2) wcd_X3_newSheet wml_X3_290 wim_X3_newSheet wse_X3_newSheet win_X3_newSheet hd_X3_newSheet ⟨Nat.le_of_ble_eq_true rfl, Nat.le_of_ble_eq_true rfl⟩ (Nat.le_of_ble_eq_true rfl) rfl rfl rfl ?_
  refine V_iload_n (pc := 14) X (th_da dtX3_widen 8 rfl) rfl ?_
  refine V_iload_n (pc := 15) X (th_da dtX3_widen 9 rfl) rfl ?_
  refine V_iload_n (pc := 16) X (th_da dtX3_widen 10 rfl) rfl ?_
  refine V_ldcw (pc := 17) (v := 1000000) X (th_da dtX3_widen 11 rfl) wco_X3_277 ?_
  refine V_iload_n (pc := 20) X (th_da dtX3_widen 12 rfl) rfl ?_
  refine V_isub (pc := 21) X (th_da dtX3_widen 13 rfl) ?_
  refine V_mmin (pc := 22) X (th_da dtX3_widen 14 rfl) wml_X3_283 wst_J9_min_7cf53 win_J9_min_7cf53 wcd_J9_min_7cf53 (Nat.le_of_ble_eq_true rfl) (Nat.le_of_ble_eq_true rfl) ?_
  refine V_iadd (pc := 25) X (th_da dtX3_widen 15 rfl) ?_
  obtain ⟨u3, h3, e3, hf⟩ := th_bd_some hf
  refine V_callVv (pc := 26) (q := 28) (As := [.int x1, .int (v1 + (th_mn x2 ((1000000 : Int32) - v1)))]) X (th_da dtX3_widen 16 rfl) (mX0_setCapacity l 28 isP_28 _ _ _ _ _ e3) wcd_X0_setCapacity wml_X3_68 wim_X0_setCapacity wse_X0_setCapacity win_X0_setCapacity hd_X0_setCapacity ⟨Nat.le_of_ble_eq_true rfl, Nat.le_of_ble_eq_true rfl⟩ (Nat.le_of_ble_eq_true rfl) rfl rfl rfl ?_
  refine V_aload_n (pc := 29) X (th_da dtX3_widen 17 rfl) rfl ?_
  refine V_getR (pc := 30) (j := 4) (t := 45) X (th_da dtX3_widen 18 rfl) wfl_X3_33 iX3 rfl rfl (Nat.le_of_ble_eq_true rfl) rfl ?_
  obtain ⟨u4, h4, e4, hf⟩ := th_bd_some hf
  refine V_callVv (pc := 33) (q := 45) (As := []) X (th_da dtX3_widen 19 rfl) (mX2_rise l 45 28 isW_45 _ _ _ e4) wcd_X2_rise wml_X3_187 wim_X2_rise wse_X2_rise win_X2_rise hd_X2_rise ⟨Nat.le_of_ble_eq_true rfl, Nat.le_of_ble_eq_true rfl⟩ (Nat.le_of_ble_eq_true rfl) rfl rfl rfl ?_
  exact V_vretF (pc := 36) X (th_da dtX3_widen 20 rfl) hf
end
def fX3_wider (x1 : Int32) (x2 : Int32) (x3 : Int32) (h : th_H) : Option (Int32 × th_H) :=
  th_bd (fX3_isLink x1 h) fun u1 h1 =>
  if (u1 = 0 : Prop) then
    some ((-2147483648), h1)
  else
    if (x2 < 0 : Prop) then
      some ((-2147483648), h1)
    else
      if (x3 < 0 : Prop) then
        some ((-2147483648), h1)
      else
        if (1 < x3 : Prop) then
          some ((-2147483648), h1)
        else
          if ((h1.1 2 7) = 0 : Prop) then
            some ((-2147483648), h1)
          else
            th_bd (fX3_widen x1 x2 h1) fun _u7 h7 =>
            th_bd (fX2_rise 19 2 h7) fun _u8 h8 =>
            if (x3 = 0 : Prop) then
              th_bd (fX2_leastLevel 45 28 h8) fun u10 h10 =>
              th_bd (fX2_leastLevel 19 2 h10) fun u11 h11 =>
              some (u10 - u11, h11)
            else
              th_bd (fX2_ratesOf 45 28 (h8.1 2 7) h8) fun u12 h12 =>
              th_bd (fX2_ratesOf 19 2 (h12.1 2 7) h12) fun u13 h13 =>
              some (u12 - u13, h13)
def tbX3_wider : List (Nat × Instr × Nat) := [(0, .iload_n 1, 1), (1, .invokestatic 49, 3), (4, .ifCond .eq 26, 3), (7, .iload_n 2, 1), (8, .ifCond .lt 22, 3), (11, .iload_n 3, 1), (12, .ifCond .lt 18, 3), (15, .iload_n 3, 1), (16, .iconst 1, 1), (17, .if_icmp .gt 13, 3), (20, .aload_n 0, 1), (21, .getfield 20, 3), (24, .getfield 87, 3), (27, .ifCond .ne 7, 3), (30, .ldc_w 300, 3), (33, .ireturn, 1), (34, .aload_n 0, 1), (35, .iload_n 1, 1), (36, .iload_n 2, 1), (37, .invokevirtual 313, 3), (40, .aload_n 0, 1), (41, .getfield 26, 3), (44, .invokevirtual 187, 3), (47, .iload_n 3, 1), (48, .ifCond .ne 19, 3), (51, .aload_n 0, 1), (52, .getfield 33, 3), (55, .invokevirtual 214, 3), (58, .aload_n 0, 1), (59, .getfield 26, 3), (62, .invokevirtual 214, 3), (65, .isub, 1), (66, .ireturn, 1), (67, .aload_n 0, 1), (68, .getfield 33, 3), (71, .aload_n 0, 1), (72, .getfield 20, 3), (75, .getfield 87, 3), (78, .invokevirtual 202, 3), (81, .aload_n 0, 1), (82, .getfield 26, 3), (85, .aload_n 0, 1), (86, .getfield 20, 3), (89, .getfield 87, 3), (92, .invokevirtual 202, 3), (95, .isub, 1), (96, .ireturn, 1)]
theorem dtX3_wider : th_dec cX3_wider tbX3_wider = true := by decide +kernel
section
variable {p0 : Program} {l : Launch} {e : Env} {s : State} {m : MethodId} {args : Array Value} {below : List Frame} {meth : Method} {c : Code} {D : va_G} {cI cZ : ClassId} {ad : Nat → Nat} {rr : Int32} {hh : th_H}
set_option maxHeartbeats 4000000 in
set_option maxRecDepth 100000 in
theorem mX3_wider (l : Launch) (x1 : Int32) (x2 : Int32) (x3 : Int32) (h : th_H) (rr : Int32) (hh : th_H) (hf : fX3_wider x1 x2 x3 h = some (rr, hh)) : th_MI l LC yX3_wider cX3_wider 4 (some .int) 6 144 [.ref 0, .int x1, .int x2, .int x3] h (some (.int rr)) hh := by
  refine th_MI_of (ls := [.ref 0, .int x1, .int x2, .int x3]) RX3 rfl rfl rfl (Nat.le_of_ble_eq_true rfl) ?_
  intro p0 e s m args below meth c D cI cZ ad X
  unfold fX3_wider at hf
  refine V_iload_n (pc := 0) X (th_da dtX3_wider 0 rfl) rfl ?_
  obtain ⟨u1, h1, e1, hf⟩ := th_bd_some hf
  refine V_callSi (pc := 1) (As := [.int x1]) X (th_da dtX3_wider 1 rfl) (mX3_isLink l _ _ _ _ e1) wcd_X3_isLink wml_X3_49 wst_X3_isLink win_X3_isLink hd_X3_isLink ⟨Nat.le_of_ble_eq_true rfl, Nat.le_of_ble_eq_true rfl⟩ (Nat.le_of_ble_eq_true rfl) rfl ?_
  refine V_if_eq (pc := 4) (tgt := 30) X (th_da dtX3_wider 2 rfl) (by decide) (fun c2 => ?_) (fun c2 => ?_)
  · rw [if_pos c2] at hf
    refine V_ldcw (pc := 30) (v := (-2147483648)) X (th_da dtX3_wider 14 rfl) wco_X3_300 ?_
    exact V_iretF (pc := 33) X (th_da dtX3_wider 15 rfl) hf
  · rw [if_neg c2] at hf
    refine V_iload_n (pc := 7) X (th_da dtX3_wider 3 rfl) rfl ?_
    refine V_if_lt (pc := 8) (tgt := 30) X (th_da dtX3_wider 4 rfl) (by decide) (fun c3 => ?_) (fun c3 => ?_)
    · rw [if_pos c3] at hf
      refine V_ldcw (pc := 30) (v := (-2147483648)) X (th_da dtX3_wider 14 rfl) wco_X3_300 ?_
      exact V_iretF (pc := 33) X (th_da dtX3_wider 15 rfl) hf
    · rw [if_neg c3] at hf
      refine V_iload_n (pc := 11) X (th_da dtX3_wider 5 rfl) rfl ?_
      refine V_if_lt (pc := 12) (tgt := 30) X (th_da dtX3_wider 6 rfl) (by decide) (fun c4 => ?_) (fun c4 => ?_)
      · rw [if_pos c4] at hf
        refine V_ldcw (pc := 30) (v := (-2147483648)) X (th_da dtX3_wider 14 rfl) wco_X3_300 ?_
        exact V_iretF (pc := 33) X (th_da dtX3_wider 15 rfl) hf
      · rw [if_neg c4] at hf
        refine V_iload_n (pc := 15) X (th_da dtX3_wider 7 rfl) rfl ?_
        refine V_iconst (pc := 16) (v := 1) X (th_da dtX3_wider 8 rfl) (by decide) ?_
        refine V_icmp_gt (pc := 17) (tgt := 30) X (th_da dtX3_wider 9 rfl) (by decide) (fun c5 => ?_) (fun c5 => ?_)
        · rw [if_pos c5] at hf
          refine V_ldcw (pc := 30) (v := (-2147483648)) X (th_da dtX3_wider 14 rfl) wco_X3_300 ?_
          exact V_iretF (pc := 33) X (th_da dtX3_wider 15 rfl) hf
        · rw [if_neg c5] at hf
          refine V_aload_n (pc := 20) X (th_da dtX3_wider 10 rfl) rfl ?_
          refine V_getR (pc := 21) (j := 1) (t := 2) X (th_da dtX3_wider 11 rfl) wfl_X3_20 iX3 rfl rfl (Nat.le_of_ble_eq_true rfl) rfl ?_
          refine V_getI (pc := 24) (j := 7) X (th_da dtX3_wider 12 rfl) wfl_X3_87 iX0 rfl rfl (Nat.le_of_ble_eq_true rfl) rfl ?_
          refine V_if_ne (pc := 27) (tgt := 34) X (th_da dtX3_wider 13 rfl) (by decide) (fun c6 => ?_) (fun c6 => ?_)
          · rw [if_pos c6] at hf
            refine V_ldcw (pc := 30) (v := (-2147483648)) X (th_da dtX3_wider 14 rfl) wco_X3_300 ?_
            exact V_iretF (pc := 33) X (th_da dtX3_wider 15 rfl) hf
          · rw [if_neg c6] at hf
            refine V_aload_n (pc := 34) X (th_da dtX3_wider 16 rfl) rfl ?_
            refine V_iload_n (pc := 35) X (th_da dtX3_wider 17 rfl) rfl ?_
            refine V_iload_n (pc := 36) X (th_da dtX3_wider 18 rfl) rfl ?_
            obtain ⟨u7, h7, e7, hf⟩ := th_bd_some hf
            refine V_callVv (pc := 37) (q := 0) (As := [.int x1, .int x2]) X (th_da dtX3_wider 19 rfl) (mX3_widen l _ _ _ _ _ e7) wcd_X3_widen wml_X3_313 wim_X3_widen wse_X3_widen win_X3_widen hd_X3_widen ⟨Nat.le_of_ble_eq_true rfl, Nat.le_of_ble_eq_true rfl⟩ (Nat.le_of_ble_eq_true rfl) rfl rfl rfl ?_
            refine V_aload_n (pc := 40) X (th_da dtX3_wider 20 rfl) rfl ?_
            refine V_getR (pc := 41) (j := 2) (t := 19) X (th_da dtX3_wider 21 rfl) wfl_X3_26 iX3 rfl rfl (Nat.le_of_ble_eq_true rfl) rfl ?_
            obtain ⟨u8, h8, e8, hf⟩ := th_bd_some hf
            refine V_callVv (pc := 44) (q := 19) (As := []) X (th_da dtX3_wider 22 rfl) (mX2_rise l 19 2 isW_19 _ _ _ e8) wcd_X2_rise wml_X3_187 wim_X2_rise wse_X2_rise win_X2_rise hd_X2_rise ⟨Nat.le_of_ble_eq_true rfl, Nat.le_of_ble_eq_true rfl⟩ (Nat.le_of_ble_eq_true rfl) rfl rfl rfl ?_
            refine V_iload_n (pc := 47) X (th_da dtX3_wider 23 rfl) rfl ?_
            refine V_if_ne (pc := 48) (tgt := 67) X (th_da dtX3_wider 24 rfl) (by decide) (fun c9 => ?_) (fun c9 => ?_)
            · rw [if_pos c9] at hf
              refine V_aload_n (pc := 51) X (th_da dtX3_wider 25 rfl) rfl ?_
              refine V_getR (pc := 52) (j := 4) (t := 45) X (th_da dtX3_wider 26 rfl) wfl_X3_33 iX3 rfl rfl (Nat.le_of_ble_eq_true rfl) rfl ?_
              obtain ⟨u10, h10, e10, hf⟩ := th_bd_some hf
              refine V_callVi (pc := 55) (q := 45) (As := []) X (th_da dtX3_wider 27 rfl) (mX2_leastLevel l 45 28 isW_45 _ _ _ e10) wcd_X2_leastLevel wml_X3_214 wim_X2_leastLevel wse_X2_leastLevel win_X2_leastLevel hd_X2_leastLevel ⟨Nat.le_of_ble_eq_true rfl, Nat.le_of_ble_eq_true rfl⟩ (Nat.le_of_ble_eq_true rfl) rfl rfl rfl ?_
              refine V_aload_n (pc := 58) X (th_da dtX3_wider 28 rfl) rfl ?_
              refine V_getR (pc := 59) (j := 2) (t := 19) X (th_da dtX3_wider 29 rfl) wfl_X3_26 iX3 rfl rfl (Nat.le_of_ble_eq_true rfl) rfl ?_
              obtain ⟨u11, h11, e11, hf⟩ := th_bd_some hf
              refine V_callVi (pc := 62) (q := 19) (As := []) X (th_da dtX3_wider 30 rfl) (mX2_leastLevel l 19 2 isW_19 _ _ _ e11) wcd_X2_leastLevel wml_X3_214 wim_X2_leastLevel wse_X2_leastLevel win_X2_leastLevel hd_X2_leastLevel ⟨Nat.le_of_ble_eq_true rfl, Nat.le_of_ble_eq_true rfl⟩ (Nat.le_of_ble_eq_true rfl) rfl rfl rfl ?_
              refine V_isub (pc := 65) X (th_da dtX3_wider 31 rfl) ?_
              exact V_iretF (pc := 66) X (th_da dtX3_wider 32 rfl) hf
            · rw [if_neg c9] at hf
              refine V_aload_n (pc := 67) X (th_da dtX3_wider 33 rfl) rfl ?_
              refine V_getR (pc := 68) (j := 4) (t := 45) X (th_da dtX3_wider 34 rfl) wfl_X3_33 iX3 rfl rfl (Nat.le_of_ble_eq_true rfl) rfl ?_
              refine V_aload_n (pc := 71) X (th_da dtX3_wider 35 rfl) rfl ?_
              refine V_getR (pc := 72) (j := 1) (t := 2) X (th_da dtX3_wider 36 rfl) wfl_X3_20 iX3 rfl rfl (Nat.le_of_ble_eq_true rfl) rfl ?_
              refine V_getI (pc := 75) (j := 7) X (th_da dtX3_wider 37 rfl) wfl_X3_87 iX0 rfl rfl (Nat.le_of_ble_eq_true rfl) rfl ?_
              obtain ⟨u12, h12, e12, hf⟩ := th_bd_some hf
              refine V_callVi (pc := 78) (q := 45) (As := [.int (h8.1 2 7)]) X (th_da dtX3_wider 38 rfl) (mX2_ratesOf l 45 28 isW_45 _ _ _ _ e12) wcd_X2_ratesOf wml_X3_202 wim_X2_ratesOf wse_X2_ratesOf win_X2_ratesOf hd_X2_ratesOf ⟨Nat.le_of_ble_eq_true rfl, Nat.le_of_ble_eq_true rfl⟩ (Nat.le_of_ble_eq_true rfl) rfl rfl rfl ?_
              refine V_aload_n (pc := 81) X (th_da dtX3_wider 39 rfl) rfl ?_
              refine V_getR (pc := 82) (j := 2) (t := 19) X (th_da dtX3_wider 40 rfl) wfl_X3_26 iX3 rfl rfl (Nat.le_of_ble_eq_true rfl) rfl ?_
              refine V_aload_n (pc := 85) X (th_da dtX3_wider 41 rfl) rfl ?_
              refine V_getR (pc := 86) (j := 1) (t := 2) X (th_da dtX3_wider 42 rfl) wfl_X3_20 iX3 rfl rfl (Nat.le_of_ble_eq_true rfl) rfl ?_
              refine V_getI (pc := 89) (j := 7) X (th_da dtX3_wider 43 rfl) wfl_X3_87 iX0 rfl rfl (Nat.le_of_ble_eq_true rfl) rfl ?_
              obtain ⟨u13, h13, e13, hf⟩ := th_bd_some hf
              refine V_callVi (pc := 92) (q := 19) (As := [.int (h12.1 2 7)]) X (th_da dtX3_wider 44 rfl) (mX2_ratesOf l 19 2 isW_19 _ _ _ _ e13) wcd_X2_ratesOf wml_X3_202 wim_X2_ratesOf wse_X2_ratesOf win_X2_ratesOf hd_X2_ratesOf ⟨Nat.le_of_ble_eq_true rfl, Nat.le_of_ble_eq_true rfl⟩ (Nat.le_of_ble_eq_true rfl) rfl rfl rfl ?_
              refine V_isub (pc := 95) X (th_da dtX3_wider 45 rfl) ?_
              exact V_iretF (pc := 96) X (th_da dtX3_wider 46 rfl) hf
end
def fX3_tight_c19 : Nat → Int32 → Int32 → Int32 → th_H → Option (Int32 × th_H)
  | 0, _, _, _, _ => none
  | n + 1, y1, y2, y3, h =>
    if (y3 < 10 : Prop) then
      th_rd h 4 10 y3 fun v2 =>
      if (v2 = 0 : Prop) then
        fX3_tight_c19 n y1 y2 (y3 + 1) h
      else
        th_bd (fX3_widen y3 100 h) fun _u4 h4 =>
        th_bd (fX2_leastLevel 45 28 h4) fun u5 h5 =>
        if (y1 < u5 : Prop) then
          th_bd (fX2_leastLevel 45 28 h5) fun u7 h7 =>
          fX3_tight_c19 n u7 y3 (y3 + 1) h7
        else
          fX3_tight_c19 n y1 y2 (y3 + 1) h5
    else
      some (y2, h)
def fX3_tight (h : th_H) : Option (Int32 × th_H) :=
  th_bd (fX2_rise 19 2 h) fun _u1 h1 =>
  th_bd (fX2_leastLevel 19 2 h1) fun u2 h2 =>
  fX3_tight_c19 1000 u2 (-1) 0 h2
def tbX3_tight : List (Nat × Instr × Nat) := [(0, .aload_n 0, 1), (1, .getfield 26, 3), (4, .invokevirtual 187, 3), (7, .aload_n 0, 1), (8, .getfield 26, 3), (11, .invokevirtual 214, 3), (14, .istore_n 1, 1), (15, .iconst (-1), 1), (16, .istore_n 2, 1), (17, .iconst 0, 1), (18, .istore_n 3, 1), (19, .iload_n 3, 1), (20, .bipush 10, 2), (22, .if_icmp .ge 49, 3), (25, .aload_n 0, 1), (26, .getfield 20, 3), (29, .getfield 162, 3), (32, .iload_n 3, 1), (33, .iaload, 1), (34, .ifCond .eq 31, 3), (37, .aload_n 0, 1), (38, .iload_n 3, 1), (39, .bipush 100, 2), (41, .invokevirtual 313, 3), (44, .aload_n 0, 1), (45, .getfield 33, 3), (48, .invokevirtual 214, 3), (51, .iload_n 1, 1), (52, .if_icmp .le 13, 3), (55, .aload_n 0, 1), (56, .getfield 33, 3), (59, .invokevirtual 214, 3), (62, .istore_n 1, 1), (63, .iload_n 3, 1), (64, .istore_n 2, 1), (65, .iinc 3 1, 3), (68, .goto (-49), 3), (71, .iload_n 2, 1), (72, .ireturn, 1)]
theorem dtX3_tight : th_dec cX3_tight tbX3_tight = true := by decide +kernel
section
variable {p0 : Program} {l : Launch} {e : Env} {s : State} {m : MethodId} {args : Array Value} {below : List Frame} {meth : Method} {c : Code} {D : va_G} {cI cZ : ClassId} {ad : Nat → Nat} {rr : Int32} {hh : th_H}
set_option maxHeartbeats 4000000 in
set_option maxRecDepth 100000 in
theorem tX3_tight_c19 (X : th_X p0 s m args meth c D cI cZ ad LC 4 RX3 cX3_tight (some .int)) : ∀ (n : Nat) (y1 : Int32) (y2 : Int32) (y3 : Int32) (h : th_H), fX3_tight_c19 n y1 y2 y3 h = some (rr, hh) → th_V p0 l e { frames := 6, cells := 0, slots := 0, locals := 144 } s m args below meth c D cI cZ ad LC 4 (some (.int rr)) hh 19 [.ref 0, .int y1, .int y2, .int y3] [] h := by
  intro n
  induction n with
  | zero => intro y1 y2 y3 h hf; cases hf
  | succ n ih =>
    intro y1 y2 y3 h hf
    rw [fX3_tight_c19] at hf
    refine V_iload_n (pc := 19) X (th_da dtX3_tight 11 rfl) rfl ?_
    refine V_bipush (pc := 20) (v := 10) X (th_da dtX3_tight 12 rfl) (by decide) ?_
    refine V_icmp_ge (pc := 22) (tgt := 71) X (th_da dtX3_tight 13 rfl) (by decide) (fun c1 => ?_) (fun c1 => ?_)
    · rw [if_pos c1] at hf
      refine V_aload_n (pc := 25) X (th_da dtX3_tight 14 rfl) rfl ?_
      refine V_getR (pc := 26) (j := 1) (t := 2) X (th_da dtX3_tight 15 rfl) wfl_X3_20 iX3 rfl rfl (Nat.le_of_ble_eq_true rfl) rfl ?_
      refine V_getR (pc := 29) (j := 1) (t := 4) X (th_da dtX3_tight 16 rfl) wfl_X3_162 iX0 rfl rfl (Nat.le_of_ble_eq_true rfl) rfl ?_
      refine V_iload_n (pc := 32) X (th_da dtX3_tight 17 rfl) rfl ?_
      obtain ⟨v2, e2, g2, hf⟩ := th_rd_some hf
      refine V_iald (pc := 33) X (th_da dtX3_tight 18 rfl) rfl g2 e2 ?_
      refine V_if_eq (pc := 34) (tgt := 65) X (th_da dtX3_tight 19 rfl) (by decide) (fun c3 => ?_) (fun c3 => ?_)
      · rw [if_pos c3] at hf
        refine V_iinc (pc := 65) (v := y3 + 1) (ls2 := [.ref 0, .int y1, .int y2, .int (y3 + 1)]) X (th_da dtX3_tight 35 rfl) rfl rfl (Nat.le_of_ble_eq_true rfl) rfl rfl ?_
        refine V_goto (pc := 68) (tgt := 19) X (th_da dtX3_tight 36 rfl) (by decide) ?_
        exact ih _ _ _ _ hf
      · rw [if_neg c3] at hf
        refine V_aload_n (pc := 37) X (th_da dtX3_tight 20 rfl) rfl ?_
        refine V_iload_n (pc := 38) X (th_da dtX3_tight 21 rfl) rfl ?_
        refine V_bipush (pc := 39) (v := 100) X (th_da dtX3_tight 22 rfl) (by decide) ?_
        obtain ⟨u4, h4, e4, hf⟩ := th_bd_some hf
        refine V_callVv (pc := 41) (q := 0) (As := [.int y3, .int 100]) X (th_da dtX3_tight 23 rfl) (mX3_widen l _ _ _ _ _ e4) wcd_X3_widen wml_X3_313 wim_X3_widen wse_X3_widen win_X3_widen hd_X3_widen ⟨Nat.le_of_ble_eq_true rfl, Nat.le_of_ble_eq_true rfl⟩ (Nat.le_of_ble_eq_true rfl) rfl rfl rfl ?_
        refine V_aload_n (pc := 44) X (th_da dtX3_tight 24 rfl) rfl ?_
        refine V_getR (pc := 45) (j := 4) (t := 45) X (th_da dtX3_tight 25 rfl) wfl_X3_33 iX3 rfl rfl (Nat.le_of_ble_eq_true rfl) rfl ?_
        obtain ⟨u5, h5, e5, hf⟩ := th_bd_some hf
        refine V_callVi (pc := 48) (q := 45) (As := []) X (th_da dtX3_tight 26 rfl) (mX2_leastLevel l 45 28 isW_45 _ _ _ e5) wcd_X2_leastLevel wml_X3_214 wim_X2_leastLevel wse_X2_leastLevel win_X2_leastLevel hd_X2_leastLevel ⟨Nat.le_of_ble_eq_true rfl, Nat.le_of_ble_eq_true rfl⟩ (Nat.le_of_ble_eq_true rfl) rfl rfl rfl ?_
        refine V_iload_n (pc := 51) X (th_da dtX3_tight 27 rfl) rfl ?_
        refine V_icmp_le (pc := 52) (tgt := 65) X (th_da dtX3_tight 28 rfl) (by decide) (fun c6 => ?_) (fun c6 => ?_)
        · rw [if_pos c6] at hf
          refine V_aload_n (pc := 55) X (th_da dtX3_tight 29 rfl) rfl ?_
          refine V_getR (pc := 56) (j := 4) (t := 45) X (th_da dtX3_tight 30 rfl) wfl_X3_33 iX3 rfl rfl (Nat.le_of_ble_eq_true rfl) rfl ?_
          obtain ⟨u7, h7, e7, hf⟩ := th_bd_some hf
          refine V_callVi (pc := 59) (q := 45) (As := []) X (th_da dtX3_tight 31 rfl) (mX2_leastLevel l 45 28 isW_45 _ _ _ e7) wcd_X2_leastLevel wml_X3_214 wim_X2_leastLevel wse_X2_leastLevel win_X2_leastLevel hd_X2_leastLevel ⟨Nat.le_of_ble_eq_true rfl, Nat.le_of_ble_eq_true rfl⟩ (Nat.le_of_ble_eq_true rfl) rfl rfl rfl ?_
          refine V_istore_n (pc := 62) (ls2 := [.ref 0, .int u7, .int y2, .int y3]) X (th_da dtX3_tight 32 rfl) (Nat.le_of_ble_eq_true rfl) rfl rfl ?_
          refine V_iload_n (pc := 63) X (th_da dtX3_tight 33 rfl) rfl ?_
          refine V_istore_n (pc := 64) (ls2 := [.ref 0, .int u7, .int y3, .int y3]) X (th_da dtX3_tight 34 rfl) (Nat.le_of_ble_eq_true rfl) rfl rfl ?_
          refine V_iinc (pc := 65) (v := y3 + 1) (ls2 := [.ref 0, .int u7, .int y3, .int (y3 + 1)]) X (th_da dtX3_tight 35 rfl) rfl rfl (Nat.le_of_ble_eq_true rfl) rfl rfl ?_
          refine V_goto (pc := 68) (tgt := 19) X (th_da dtX3_tight 36 rfl) (by decide) ?_
          exact ih _ _ _ _ hf
        · rw [if_neg c6] at hf
          refine V_iinc (pc := 65) (v := y3 + 1) (ls2 := [.ref 0, .int y1, .int y2, .int (y3 + 1)]) X (th_da dtX3_tight 35 rfl) rfl rfl (Nat.le_of_ble_eq_true rfl) rfl rfl ?_
          refine V_goto (pc := 68) (tgt := 19) X (th_da dtX3_tight 36 rfl) (by decide) ?_
          exact ih _ _ _ _ hf
    · rw [if_neg c1] at hf
      refine V_iload_n (pc := 71) X (th_da dtX3_tight 37 rfl) rfl ?_
      exact V_iretF (pc := 72) X (th_da dtX3_tight 38 rfl) hf
set_option maxHeartbeats 4000000 in
set_option maxRecDepth 100000 in
theorem mX3_tight (l : Launch) (h : th_H) (rr : Int32) (hh : th_H) (hf : fX3_tight h = some (rr, hh)) : th_MI l LC yX3_tight cX3_tight 4 (some .int) 6 144 [.ref 0] h (some (.int rr)) hh := by
  refine th_MI_of (ls := [.ref 0, .null, .null, .null]) RX3 rfl rfl rfl (Nat.le_of_ble_eq_true rfl) ?_
  intro p0 e s m args below meth c D cI cZ ad X
  unfold fX3_tight at hf
  refine V_aload_n (pc := 0) X (th_da dtX3_tight 0 rfl) rfl ?_
  refine V_getR (pc := 1) (j := 2) (t := 19) X (th_da dtX3_tight 1 rfl) wfl_X3_26 iX3 rfl rfl (Nat.le_of_ble_eq_true rfl) rfl ?_
  obtain ⟨u1, h1, e1, hf⟩ := th_bd_some hf
  refine V_callVv (pc := 4) (q := 19) (As := []) X (th_da dtX3_tight 2 rfl) (mX2_rise l 19 2 isW_19 _ _ _ e1) wcd_X2_rise wml_X3_187 wim_X2_rise wse_X2_rise win_X2_rise hd_X2_rise ⟨Nat.le_of_ble_eq_true rfl, Nat.le_of_ble_eq_true rfl⟩ (Nat.le_of_ble_eq_true rfl) rfl rfl rfl ?_
  refine V_aload_n (pc := 7) X (th_da dtX3_tight 3 rfl) rfl ?_
  refine V_getR (pc := 8) (j := 2) (t := 19) X (th_da dtX3_tight 4 rfl) wfl_X3_26 iX3 rfl rfl (Nat.le_of_ble_eq_true rfl) rfl ?_
  obtain ⟨u2, h2, e2, hf⟩ := th_bd_some hf
  refine V_callVi (pc := 11) (q := 19) (As := []) X (th_da dtX3_tight 5 rfl) (mX2_leastLevel l 19 2 isW_19 _ _ _ e2) wcd_X2_leastLevel wml_X3_214 wim_X2_leastLevel wse_X2_leastLevel win_X2_leastLevel hd_X2_leastLevel ⟨Nat.le_of_ble_eq_true rfl, Nat.le_of_ble_eq_true rfl⟩ (Nat.le_of_ble_eq_true rfl) rfl rfl rfl ?_
  refine V_istore_n (pc := 14) (ls2 := [.ref 0, .int u2, .null, .null]) X (th_da dtX3_tight 6 rfl) (Nat.le_of_ble_eq_true rfl) rfl rfl ?_
  refine V_iconst (pc := 15) (v := (-1)) X (th_da dtX3_tight 7 rfl) (by decide) ?_
  refine V_istore_n (pc := 16) (ls2 := [.ref 0, .int u2, .int (-1), .null]) X (th_da dtX3_tight 8 rfl) (Nat.le_of_ble_eq_true rfl) rfl rfl ?_
  refine V_iconst (pc := 17) (v := 0) X (th_da dtX3_tight 9 rfl) (by decide) ?_
  refine V_istore_n (pc := 18) (ls2 := [.ref 0, .int u2, .int (-1), .int 0]) X (th_da dtX3_tight 10 rfl) (Nat.le_of_ble_eq_true rfl) rfl rfl ?_
  exact tX3_tight_c19 X _ _ _ _ _ hf
end
def fX3_enough_c37 : Nat → Int32 → Int32 → Int32 → Int32 → th_H → Option (Int32 × th_H)
  | 0, _, _, _, _, _ => none
  | n + 1, y1, y2, y3, y5, h =>
    if (y5 < 32 : Prop) then
      if (y2 < y3 : Prop) then
        th_bd (fX0_setCapacity 28 y1 ((y2 + y3) / 2) h) fun _u3 h3 =>
        th_bd (fX3_otherLevels h3) fun u4 h4 =>
        if (u4 = 0 : Prop) then
          fX3_enough_c37 n y1 y2 ((y2 + y3) / 2) (y5 + 1) h4
        else
          fX3_enough_c37 n y1 (((y2 + y3) / 2) + 1) y3 (y5 + 1) h4
      else
        some (y3, h)
    else
      some (y3, h)
def fX3_enough (x1 : Int32) (h : th_H) : Option (Int32 × th_H) :=
  th_bd (fX3_isLink x1 h) fun u1 h1 =>
  if (u1 = 0 : Prop) then
    some ((-1), h1)
  else
    th_bd (fX0_boundOf 2 x1 h1) fun u3 h3 =>
    th_rd h3 3 10 x1 fun v4 =>
    th_bd (fX3_newSheet h3) fun _u5 h5 =>
    fX3_enough_c37 1000 x1 u3 v4 0 h5
def tbX3_enough : List (Nat × Instr × Nat) := [(0, .iload_n 1, 1), (1, .invokestatic 49, 3), (4, .ifCond .ne 5, 3), (7, .iconst (-1), 1), (8, .ireturn, 1), (9, .aload_n 0, 1), (10, .getfield 20, 3), (13, .iload_n 1, 1), (14, .invokevirtual 65, 3), (17, .istore_n 2, 1), (18, .aload_n 0, 1), (19, .getfield 20, 3), (22, .getfield 60, 3), (25, .iload_n 1, 1), (26, .iaload, 1), (27, .istore_n 3, 1), (28, .aload_n 0, 1), (29, .invokevirtual 290, 3), (32, .astore 4, 2), (34, .iconst 0, 1), (35, .istore 5, 2), (37, .iload 5, 2), (39, .bipush 32, 2), (41, .if_icmp .ge 47, 3), (44, .iload_n 2, 1), (45, .iload_n 3, 1), (46, .if_icmp .ge 42, 3), (49, .iload_n 2, 1), (50, .iload_n 3, 1), (51, .iadd, 1), (52, .iconst 2, 1), (53, .idiv, 1), (54, .istore 6, 2), (56, .aload 4, 2), (58, .iload_n 1, 1), (59, .iload 6, 2), (61, .invokevirtual 68, 3), (64, .aload_n 0, 1), (65, .invokevirtual 307, 3), (68, .ifCond .ne 9, 3), (71, .iload 6, 2), (73, .istore_n 3, 1), (74, .goto 8, 3), (77, .iload 6, 2), (79, .iconst 1, 1), (80, .iadd, 1), (81, .istore_n 2, 1), (82, .iinc 5 1, 3), (85, .goto (-48), 3), (88, .iload_n 3, 1), (89, .ireturn, 1)]
theorem dtX3_enough : th_dec cX3_enough tbX3_enough = true := by decide +kernel
section
variable {p0 : Program} {l : Launch} {e : Env} {s : State} {m : MethodId} {args : Array Value} {below : List Frame} {meth : Method} {c : Code} {D : va_G} {cI cZ : ClassId} {ad : Nat → Nat} {rr : Int32} {hh : th_H}
set_option maxHeartbeats 4000000 in
set_option maxRecDepth 100000 in
theorem tX3_enough_c37 (X : th_X p0 s m args meth c D cI cZ ad LC 7 RX3 cX3_enough (some .int)) : ∀ (n : Nat) (y1 : Int32) (y2 : Int32) (y3 : Int32) (y5 : Int32) (h : th_H), fX3_enough_c37 n y1 y2 y3 y5 h = some (rr, hh) → th_V p0 l e { frames := 6, cells := 0, slots := 0, locals := 143 } s m args below meth c D cI cZ ad LC 7 (some (.int rr)) hh 37 [.ref 0, .int y1, .int y2, .int y3, .ref 28, .int y5, .null] [] h := by
  intro n
  induction n with
  | zero => intro y1 y2 y3 y5 h hf; cases hf
  | succ n ih =>
    intro y1 y2 y3 y5 h hf
    rw [fX3_enough_c37] at hf
    refine V_iload (pc := 37) X (th_da dtX3_enough 21 rfl) rfl ?_
    refine V_bipush (pc := 39) (v := 32) X (th_da dtX3_enough 22 rfl) (by decide) ?_
    refine V_icmp_ge (pc := 41) (tgt := 88) X (th_da dtX3_enough 23 rfl) (by decide) (fun c1 => ?_) (fun c1 => ?_)
    · rw [if_pos c1] at hf
      refine V_iload_n (pc := 44) X (th_da dtX3_enough 24 rfl) rfl ?_
      refine V_iload_n (pc := 45) X (th_da dtX3_enough 25 rfl) rfl ?_
      refine V_icmp_ge (pc := 46) (tgt := 88) X (th_da dtX3_enough 26 rfl) (by decide) (fun c2 => ?_) (fun c2 => ?_)
      · rw [if_pos c2] at hf
        refine V_iload_n (pc := 49) X (th_da dtX3_enough 27 rfl) rfl ?_
        refine V_iload_n (pc := 50) X (th_da dtX3_enough 28 rfl) rfl ?_
        refine V_iadd (pc := 51) X (th_da dtX3_enough 29 rfl) ?_
        refine V_iconst (pc := 52) (v := 2) X (th_da dtX3_enough 30 rfl) (by decide) ?_
        refine V_idiv (pc := 53) X (th_da dtX3_enough 31 rfl) (by decide) ?_
        refine V_istore (pc := 54) (ls2 := [.ref 0, .int y1, .int y2, .int y3, .ref 28, .int y5, .int ((y2 + y3) / 2)]) X (th_da dtX3_enough 32 rfl) (Nat.le_of_ble_eq_true rfl) rfl rfl ?_
        refine V_aload (pc := 56) X (th_da dtX3_enough 33 rfl) rfl ?_
        refine V_iload_n (pc := 58) X (th_da dtX3_enough 34 rfl) rfl ?_
        refine V_iload (pc := 59) X (th_da dtX3_enough 35 rfl) rfl ?_
        obtain ⟨u3, h3, e3, hf⟩ := th_bd_some hf
        refine V_callVv (pc := 61) (q := 28) (As := [.int y1, .int ((y2 + y3) / 2)]) X (th_da dtX3_enough 36 rfl) (mX0_setCapacity l 28 isP_28 _ _ _ _ _ e3) wcd_X0_setCapacity wml_X3_68 wim_X0_setCapacity wse_X0_setCapacity win_X0_setCapacity hd_X0_setCapacity ⟨Nat.le_of_ble_eq_true rfl, Nat.le_of_ble_eq_true rfl⟩ (Nat.le_of_ble_eq_true rfl) rfl rfl rfl ?_
        refine V_aload_n (pc := 64) X (th_da dtX3_enough 37 rfl) rfl ?_
        obtain ⟨u4, h4, e4, hf⟩ := th_bd_some hf
        refine V_callVi (pc := 65) (q := 0) (As := []) X (th_da dtX3_enough 38 rfl) (mX3_otherLevels l _ _ _ e4) wcd_X3_otherLevels wml_X3_307 wim_X3_otherLevels wse_X3_otherLevels win_X3_otherLevels hd_X3_otherLevels ⟨Nat.le_of_ble_eq_true rfl, Nat.le_of_ble_eq_true rfl⟩ (Nat.le_of_ble_eq_true rfl) rfl rfl rfl ?_
        refine V_if_ne (pc := 68) (tgt := 77) X (th_da dtX3_enough 39 rfl) (by decide) (fun c5 => ?_) (fun c5 => ?_)
        · rw [if_pos c5] at hf
          refine V_iload (pc := 71) X (th_da dtX3_enough 40 rfl) rfl ?_
          refine V_istore_n (pc := 73) (ls2 := [.ref 0, .int y1, .int y2, .int ((y2 + y3) / 2), .ref 28, .int y5, .int ((y2 + y3) / 2)]) X (th_da dtX3_enough 41 rfl) (Nat.le_of_ble_eq_true rfl) rfl rfl ?_
          refine V_goto (pc := 74) (tgt := 82) X (th_da dtX3_enough 42 rfl) (by decide) ?_
          refine V_iinc (pc := 82) (v := y5 + 1) (ls2 := [.ref 0, .int y1, .int y2, .int ((y2 + y3) / 2), .ref 28, .int (y5 + 1), .int ((y2 + y3) / 2)]) X (th_da dtX3_enough 47 rfl) rfl rfl (Nat.le_of_ble_eq_true rfl) rfl rfl ?_
          refine V_goto (pc := 85) (tgt := 37) X (th_da dtX3_enough 48 rfl) (by decide) ?_
          refine V_mask [true, true, true, true, true, true, false] (ls2 := [.ref 0, .int y1, .int y2, .int ((y2 + y3) / 2), .ref 28, .int (y5 + 1), .null]) rfl ?_
          exact ih _ _ _ _ _ hf
        · rw [if_neg c5] at hf
          refine V_iload (pc := 77) X (th_da dtX3_enough 43 rfl) rfl ?_
          refine V_iconst (pc := 79) (v := 1) X (th_da dtX3_enough 44 rfl) (by decide) ?_
          refine V_iadd (pc := 80) X (th_da dtX3_enough 45 rfl) ?_
          refine V_istore_n (pc := 81) (ls2 := [.ref 0, .int y1, .int (((y2 + y3) / 2) + 1), .int y3, .ref 28, .int y5, .int ((y2 + y3) / 2)]) X (th_da dtX3_enough 46 rfl) (Nat.le_of_ble_eq_true rfl) rfl rfl ?_
          refine V_iinc (pc := 82) (v := y5 + 1) (ls2 := [.ref 0, .int y1, .int (((y2 + y3) / 2) + 1), .int y3, .ref 28, .int (y5 + 1), .int ((y2 + y3) / 2)]) X (th_da dtX3_enough 47 rfl) rfl rfl (Nat.le_of_ble_eq_true rfl) rfl rfl ?_
          refine V_goto (pc := 85) (tgt := 37) X (th_da dtX3_enough 48 rfl) (by decide) ?_
          refine V_mask [true, true, true, true, true, true, false] (ls2 := [.ref 0, .int y1, .int (((y2 + y3) / 2) + 1), .int y3, .ref 28, .int (y5 + 1), .null]) rfl ?_
          exact ih _ _ _ _ _ hf
      · rw [if_neg c2] at hf
        refine V_iload_n (pc := 88) X (th_da dtX3_enough 49 rfl) rfl ?_
        exact V_iretF (pc := 89) X (th_da dtX3_enough 50 rfl) hf
    · rw [if_neg c1] at hf
      refine V_iload_n (pc := 88) X (th_da dtX3_enough 49 rfl) rfl ?_
      exact V_iretF (pc := 89) X (th_da dtX3_enough 50 rfl) hf
set_option maxHeartbeats 4000000 in
set_option maxRecDepth 100000 in
theorem mX3_enough (l : Launch) (x1 : Int32) (h : th_H) (rr : Int32) (hh : th_H) (hf : fX3_enough x1 h = some (rr, hh)) : th_MI l LC yX3_enough cX3_enough 7 (some .int) 6 143 [.ref 0, .int x1] h (some (.int rr)) hh := by
  refine th_MI_of (ls := [.ref 0, .int x1, .null, .null, .null, .null, .null]) RX3 rfl rfl rfl (Nat.le_of_ble_eq_true rfl) ?_
  intro p0 e s m args below meth c D cI cZ ad X
  unfold fX3_enough at hf
  refine V_iload_n (pc := 0) X (th_da dtX3_enough 0 rfl) rfl ?_
  obtain ⟨u1, h1, e1, hf⟩ := th_bd_some hf
  refine V_callSi (pc := 1) (As := [.int x1]) X (th_da dtX3_enough 1 rfl) (mX3_isLink l _ _ _ _ e1) wcd_X3_isLink wml_X3_49 wst_X3_isLink win_X3_isLink hd_X3_isLink ⟨Nat.le_of_ble_eq_true rfl, Nat.le_of_ble_eq_true rfl⟩ (Nat.le_of_ble_eq_true rfl) rfl ?_
  refine V_if_ne (pc := 4) (tgt := 9) X (th_da dtX3_enough 2 rfl) (by decide) (fun c2 => ?_) (fun c2 => ?_)
  · rw [if_pos c2] at hf
    refine V_iconst (pc := 7) (v := (-1)) X (th_da dtX3_enough 3 rfl) (by decide) ?_
    exact V_iretF (pc := 8) X (th_da dtX3_enough 4 rfl) hf
  · rw [if_neg c2] at hf
    refine V_aload_n (pc := 9) X (th_da dtX3_enough 5 rfl) rfl ?_
    refine V_getR (pc := 10) (j := 1) (t := 2) X (th_da dtX3_enough 6 rfl) wfl_X3_20 iX3 rfl rfl (Nat.le_of_ble_eq_true rfl) rfl ?_
    refine V_iload_n (pc := 13) X (th_da dtX3_enough 7 rfl) rfl ?_
    obtain ⟨u3, h3, e3, hf⟩ := th_bd_some hf
    refine V_callVi (pc := 14) (q := 2) (As := [.int x1]) X (th_da dtX3_enough 8 rfl) (mX0_boundOf l 2 isP_2 _ _ _ _ e3) wcd_X0_boundOf wml_X3_65 wim_X0_boundOf wse_X0_boundOf win_X0_boundOf hd_X0_boundOf ⟨Nat.le_of_ble_eq_true rfl, Nat.le_of_ble_eq_true rfl⟩ (Nat.le_of_ble_eq_true rfl) rfl rfl rfl ?_
    refine V_istore_n (pc := 17) (ls2 := [.ref 0, .int x1, .int u3, .null, .null, .null, .null]) X (th_da dtX3_enough 9 rfl) (Nat.le_of_ble_eq_true rfl) rfl rfl ?_
    refine V_aload_n (pc := 18) X (th_da dtX3_enough 10 rfl) rfl ?_
    refine V_getR (pc := 19) (j := 1) (t := 2) X (th_da dtX3_enough 11 rfl) wfl_X3_20 iX3 rfl rfl (Nat.le_of_ble_eq_true rfl) rfl ?_
    refine V_getR (pc := 22) (j := 0) (t := 3) X (th_da dtX3_enough 12 rfl) wfl_X3_60 iX0 rfl rfl (Nat.le_of_ble_eq_true rfl) rfl ?_
    refine V_iload_n (pc := 25) X (th_da dtX3_enough 13 rfl) rfl ?_
    obtain ⟨v4, e4, g4, hf⟩ := th_rd_some hf
    refine V_iald (pc := 26) X (th_da dtX3_enough 14 rfl) rfl g4 e4 ?_
    refine V_istore_n (pc := 27) (ls2 := [.ref 0, .int x1, .int u3, .int v4, .null, .null, .null]) X (th_da dtX3_enough 15 rfl) (Nat.le_of_ble_eq_true rfl) rfl rfl ?_
    refine V_aload_n (pc := 28) X (th_da dtX3_enough 16 rfl) rfl ?_
    obtain ⟨u5, h5, e5, hf⟩ := th_bd_some hf
    refine V_callVr (pc := 29) (q := 0) (As := []) X (th_da dtX3_enough 17 rfl) (mX3_newSheet l _ _ _ e5) wcd_X3_newSheet wml_X3_290 wim_X3_newSheet wse_X3_newSheet win_X3_newSheet hd_X3_newSheet ⟨Nat.le_of_ble_eq_true rfl, Nat.le_of_ble_eq_true rfl⟩ (Nat.le_of_ble_eq_true rfl) rfl rfl rfl ?_
    refine V_astore (pc := 32) (ls2 := [.ref 0, .int x1, .int u3, .int v4, .ref 28, .null, .null]) X (th_da dtX3_enough 18 rfl) (Nat.le_of_ble_eq_true rfl) rfl rfl ?_
    refine V_iconst (pc := 34) (v := 0) X (th_da dtX3_enough 19 rfl) (by decide) ?_
    refine V_istore (pc := 35) (ls2 := [.ref 0, .int x1, .int u3, .int v4, .ref 28, .int 0, .null]) X (th_da dtX3_enough 20 rfl) (Nat.le_of_ble_eq_true rfl) rfl rfl ?_
    exact tX3_enough_c37 X _ _ _ _ _ _ hf
end
def fX3_draw (x0 : Int32) (h : th_H) : Option (Int32 × th_H) :=
  some (th_rem (((1103 : Int32) * x0) + 12345) 1000003, h)
def tbX3_draw : List (Nat × Instr × Nat) := [(0, .sipush 1103, 3), (3, .iload_n 0, 1), (4, .imul, 1), (5, .sipush 12345, 3), (8, .iadd, 1), (9, .ldc_w 348, 3), (12, .irem, 1), (13, .ireturn, 1)]
theorem dtX3_draw : th_dec cX3_draw tbX3_draw = true := by decide +kernel
section
variable {p0 : Program} {l : Launch} {e : Env} {s : State} {m : MethodId} {args : Array Value} {below : List Frame} {meth : Method} {c : Code} {D : va_G} {cI cZ : ClassId} {ad : Nat → Nat} {rr : Int32} {hh : th_H}
set_option maxHeartbeats 4000000 in
set_option maxRecDepth 100000 in
theorem mX3_draw (l : Launch) (x0 : Int32) (h : th_H) (rr : Int32) (hh : th_H) (hf : fX3_draw x0 h = some (rr, hh)) : th_MI l LC yX3_draw cX3_draw 1 (some .int) 0 0 [.int x0] h (some (.int rr)) hh := by
  refine th_MI_of (ls := [.int x0]) RX3 rfl rfl rfl (Nat.le_of_ble_eq_true rfl) ?_
  intro p0 e s m args below meth c D cI cZ ad X
  unfold fX3_draw at hf
  refine V_sipush (pc := 0) (v := 1103) X (th_da dtX3_draw 0 rfl) (by decide) ?_
  refine V_iload_n (pc := 3) X (th_da dtX3_draw 1 rfl) rfl ?_
  refine V_imul (pc := 4) X (th_da dtX3_draw 2 rfl) ?_
  refine V_sipush (pc := 5) (v := 12345) X (th_da dtX3_draw 3 rfl) (by decide) ?_
  refine V_iadd (pc := 8) X (th_da dtX3_draw 4 rfl) ?_
  refine V_ldcw (pc := 9) (v := 1000003) X (th_da dtX3_draw 5 rfl) wco_X3_348 ?_
  refine V_irem (pc := 12) X (th_da dtX3_draw 6 rfl) (by decide) ?_
  exact V_iretF (pc := 13) X (th_da dtX3_draw 7 rfl) hf
end
def fX3_someoneComes (x1 : Int32) (h : th_H) : Option (Int32 × th_H) :=
  th_bd (fX3_draw x1 h) fun u1 h1 =>
  th_bd (fX3_draw u1 h1) fun u2 h2 =>
  th_bd (fX3_draw u2 h2) fun u3 h3 =>
  th_bd (fX3_draw u3 h3) fun u4 h4 =>
  th_bd (fX3_whyNotCome 28 (th_rem u1 1000000) ((1 : Int32) + (th_rem u2 1023)) ((1 : Int32) + (th_rem u3 9)) 0 (th_rem u4 1000) h4) fun u5 h5 =>
  if (u5 = (-1) : Prop) then
    th_bd (fX1_takeIn 27 (th_rem u1 1000000) ((1 : Int32) + (th_rem u2 1023)) ((1 : Int32) + (th_rem u3 9)) 0 (th_rem u4 1000) h5) fun u7 h7 =>
    some (u4, h7)
  else
    some (u4, h5)
def tbX3_someoneComes : List (Nat × Instr × Nat) := [(0, .iload_n 1, 1), (1, .invokestatic 349, 3), (4, .istore_n 2, 1), (5, .iload_n 2, 1), (6, .invokestatic 349, 3), (9, .istore_n 3, 1), (10, .iload_n 3, 1), (11, .invokestatic 349, 3), (14, .istore 4, 2), (16, .iload 4, 2), (18, .invokestatic 349, 3), (21, .istore 5, 2), (23, .iload_n 2, 1), (24, .ldc_w 277, 3), (27, .irem, 1), (28, .istore 6, 2), (30, .iconst 1, 1), (31, .iload_n 3, 1), (32, .sipush 1023, 3), (35, .irem, 1), (36, .iadd, 1), (37, .istore 7, 2), (39, .iconst 1, 1), (40, .iload 4, 2), (42, .bipush 9, 2), (44, .irem, 1), (45, .iadd, 1), (46, .istore 8, 2), (48, .iload 5, 2), (50, .sipush 1000, 3), (53, .irem, 1), (54, .istore 9, 2), (56, .aload_n 0, 1), (57, .getfield 30, 3), (60, .getfield 16, 3), (63, .iload 6, 2), (65, .iload 7, 2), (67, .iload 8, 2), (69, .iconst 0, 1), (70, .iload 9, 2), (72, .invokestatic 72, 3), (75, .iconst (-1), 1), (76, .if_icmp .ne 20, 3), (79, .aload_n 0, 1), (80, .getfield 30, 3), (83, .iload 6, 2), (85, .iload 7, 2), (87, .iload 8, 2), (89, .iconst 0, 1), (90, .iload 9, 2), (92, .invokevirtual 76, 3), (95, .pop, 1), (96, .iload 5, 2), (98, .ireturn, 1)]
theorem dtX3_someoneComes : th_dec cX3_someoneComes tbX3_someoneComes = true := by decide +kernel
section
variable {p0 : Program} {l : Launch} {e : Env} {s : State} {m : MethodId} {args : Array Value} {below : List Frame} {meth : Method} {c : Code} {D : va_G} {cI cZ : ClassId} {ad : Nat → Nat} {rr : Int32} {hh : th_H}
set_option maxHeartbeats 4000000 in
set_option maxRecDepth 100000 in
theorem mX3_someoneComes (l : Launch) (x1 : Int32) (h : th_H) (rr : Int32) (hh : th_H) (hf : fX3_someoneComes x1 h = some (rr, hh)) : th_MI l LC yX3_someoneComes cX3_someoneComes 10 (some .int) 4 98 [.ref 0, .int x1] h (some (.int rr)) hh := by
  refine th_MI_of (ls := [.ref 0, .int x1, .null, .null, .null, .null, .null, .null, .null, .null]) RX3 rfl rfl rfl (Nat.le_of_ble_eq_true rfl) ?_
  intro p0 e s m args below meth c D cI cZ ad X
  unfold fX3_someoneComes at hf
  refine V_iload_n (pc := 0) X (th_da dtX3_someoneComes 0 rfl) rfl ?_
  obtain ⟨u1, h1, e1, hf⟩ := th_bd_some hf
  refine V_callSi (pc := 1) (As := [.int x1]) X (th_da dtX3_someoneComes 1 rfl) (mX3_draw l _ _ _ _ e1) wcd_X3_draw wml_X3_349 wst_X3_draw win_X3_draw hd_X3_draw ⟨Nat.le_of_ble_eq_true rfl, Nat.le_of_ble_eq_true rfl⟩ (Nat.le_of_ble_eq_true rfl) rfl ?_
  refine V_istore_n (pc := 4) (ls2 := [.ref 0, .int x1, .int u1, .null, .null, .null, .null, .null, .null, .null]) X (th_da dtX3_someoneComes 2 rfl) (Nat.le_of_ble_eq_true rfl) rfl rfl ?_
  refine V_iload_n (pc := 5) X (th_da dtX3_someoneComes 3 rfl) rfl ?_
  obtain ⟨u2, h2, e2, hf⟩ := th_bd_some hf
  refine V_callSi (pc := 6) (As := [.int u1]) X (th_da dtX3_someoneComes 4 rfl) (mX3_draw l _ _ _ _ e2) wcd_X3_draw wml_X3_349 wst_X3_draw win_X3_draw hd_X3_draw ⟨Nat.le_of_ble_eq_true rfl, Nat.le_of_ble_eq_true rfl⟩ (Nat.le_of_ble_eq_true rfl) rfl ?_
  refine V_istore_n (pc := 9) (ls2 := [.ref 0, .int x1, .int u1, .int u2, .null, .null, .null, .null, .null, .null]) X (th_da dtX3_someoneComes 5 rfl) (Nat.le_of_ble_eq_true rfl) rfl rfl ?_
  refine V_iload_n (pc := 10) X (th_da dtX3_someoneComes 6 rfl) rfl ?_
  obtain ⟨u3, h3, e3, hf⟩ := th_bd_some hf
  refine V_callSi (pc := 11) (As := [.int u2]) X (th_da dtX3_someoneComes 7 rfl) (mX3_draw l _ _ _ _ e3) wcd_X3_draw wml_X3_349 wst_X3_draw win_X3_draw hd_X3_draw ⟨Nat.le_of_ble_eq_true rfl, Nat.le_of_ble_eq_true rfl⟩ (Nat.le_of_ble_eq_true rfl) rfl ?_
  refine V_istore (pc := 14) (ls2 := [.ref 0, .int x1, .int u1, .int u2, .int u3, .null, .null, .null, .null, .null]) X (th_da dtX3_someoneComes 8 rfl) (Nat.le_of_ble_eq_true rfl) rfl rfl ?_
  refine V_iload (pc := 16) X (th_da dtX3_someoneComes 9 rfl) rfl ?_
  obtain ⟨u4, h4, e4, hf⟩ := th_bd_some hf
  refine V_callSi (pc := 18) (As := [.int u3]) X (th_da dtX3_someoneComes 10 rfl) (mX3_draw l _ _ _ _ e4) wcd_X3_draw wml_X3_349 wst_X3_draw win_X3_draw hd_X3_draw ⟨Nat.le_of_ble_eq_true rfl, Nat.le_of_ble_eq_true rfl⟩ (Nat.le_of_ble_eq_true rfl) rfl ?_
  refine V_istore (pc := 21) (ls2 := [.ref 0, .int x1, .int u1, .int u2, .int u3, .int u4, .null, .null, .null, .null]) X (th_da dtX3_someoneComes 11 rfl) (Nat.le_of_ble_eq_true rfl) rfl rfl ?_
  refine V_iload_n (pc := 23) X (th_da dtX3_someoneComes 12 rfl) rfl ?_
  refine V_ldcw (pc := 24) (v := 1000000) X (th_da dtX3_someoneComes 13 rfl) wco_X3_277 ?_
  refine V_irem (pc := 27) X (th_da dtX3_someoneComes 14 rfl) (by decide) ?_
  refine V_istore (pc := 28) (ls2 := [.ref 0, .int x1, .int u1, .int u2, .int u3, .int u4, .int (th_rem u1 1000000), .null, .null, .null]) X (th_da dtX3_someoneComes 15 rfl) (Nat.le_of_ble_eq_true rfl) rfl rfl ?_
  refine V_iconst (pc := 30) (v := 1) X (th_da dtX3_someoneComes 16 rfl) (by decide) ?_
  refine V_iload_n (pc := 31) X (th_da dtX3_someoneComes 17 rfl) rfl ?_
  refine V_sipush (pc := 32) (v := 1023) X (th_da dtX3_someoneComes 18 rfl) (by decide) ?_
  refine V_irem (pc := 35) X (th_da dtX3_someoneComes 19 rfl) (by decide) ?_
  refine V_iadd (pc := 36) X (th_da dtX3_someoneComes 20 rfl) ?_
  refine V_istore (pc := 37) (ls2 := [.ref 0, .int x1, .int u1, .int u2, .int u3, .int u4, .int (th_rem u1 1000000), .int ((1 : Int32) + (th_rem u2 1023)), .null, .null]) X (th_da dtX3_someoneComes 21 rfl) (Nat.le_of_ble_eq_true rfl) rfl rfl ?_
  refine V_iconst (pc := 39) (v := 1) X (th_da dtX3_someoneComes 22 rfl) (by decide) ?_
  refine V_iload (pc := 40) X (th_da dtX3_someoneComes 23 rfl) rfl ?_
  refine V_bipush (pc := 42) (v := 9) X (th_da dtX3_someoneComes 24 rfl) (by decide) ?_
  refine V_irem (pc := 44) X (th_da dtX3_someoneComes 25 rfl) (by decide) ?_
  refine V_iadd (pc := 45) X (th_da dtX3_someoneComes 26 rfl) ?_
  refine V_istore (pc := 46) (ls2 := [.ref 0, .int x1, .int u1, .int u2, .int u3, .int u4, .int (th_rem u1 1000000), .int ((1 : Int32) + (th_rem u2 1023)), .int ((1 : Int32) + (th_rem u3 9)), .null]) X (th_da dtX3_someoneComes 27 rfl) (Nat.le_of_ble_eq_true rfl) rfl rfl ?_
  refine V_iload (pc := 48) X (th_da dtX3_someoneComes 28 rfl) rfl ?_
  refine V_sipush (pc := 50) (v := 1000) X (th_da dtX3_someoneComes 29 rfl) (by decide) ?_
  refine V_irem (pc := 53) X (th_da dtX3_someoneComes 30 rfl) (by decide) ?_
  refine V_istore (pc := 54) (ls2 := [.ref 0, .int x1, .int u1, .int u2, .int u3, .int u4, .int (th_rem u1 1000000), .int ((1 : Int32) + (th_rem u2 1023)), .int ((1 : Int32) + (th_rem u3 9)), .int (th_rem u4 1000)]) X (th_da dtX3_someoneComes 31 rfl) (Nat.le_of_ble_eq_true rfl) rfl rfl ?_
  refine V_aload_n (pc := 56) X (th_da dtX3_someoneComes 32 rfl) rfl ?_
  refine V_getR (pc := 57) (j := 3) (t := 27) X (th_da dtX3_someoneComes 33 rfl) wfl_X3_30 iX3 rfl rfl (Nat.le_of_ble_eq_true rfl) rfl ?_
  refine V_getR (pc := 60) (j := 0) (t := 28) X (th_da dtX3_someoneComes 34 rfl) wfl_X3_16 iX1 rfl rfl (Nat.le_of_ble_eq_true rfl) rfl ?_
  refine V_iload (pc := 63) X (th_da dtX3_someoneComes 35 rfl) rfl ?_
  refine V_iload (pc := 65) X (th_da dtX3_someoneComes 36 rfl) rfl ?_
  refine V_iload (pc := 67) X (th_da dtX3_someoneComes 37 rfl) rfl ?_
  refine V_iconst (pc := 69) (v := 0) X (th_da dtX3_someoneComes 38 rfl) (by decide) ?_
  refine V_iload (pc := 70) X (th_da dtX3_someoneComes 39 rfl) rfl ?_
  obtain ⟨u5, h5, e5, hf⟩ := th_bd_some hf
  refine V_callSi (pc := 72) (As := [.ref 28, .int (th_rem u1 1000000), .int ((1 : Int32) + (th_rem u2 1023)), .int ((1 : Int32) + (th_rem u3 9)), .int 0, .int (th_rem u4 1000)]) X (th_da dtX3_someoneComes 40 rfl) (mX3_whyNotCome l 28 (Q_p isQ_27) _ _ _ _ _ _ _ _ e5) wcd_X3_whyNotCome wml_X3_72 wst_X3_whyNotCome win_X3_whyNotCome hd_X3_whyNotCome ⟨Nat.le_of_ble_eq_true rfl, Nat.le_of_ble_eq_true rfl⟩ (Nat.le_of_ble_eq_true rfl) rfl ?_
  refine V_iconst (pc := 75) (v := (-1)) X (th_da dtX3_someoneComes 41 rfl) (by decide) ?_
  refine V_icmp_ne (pc := 76) (tgt := 96) X (th_da dtX3_someoneComes 42 rfl) (by decide) (fun c6 => ?_) (fun c6 => ?_)
  · rw [if_pos c6] at hf
    refine V_aload_n (pc := 79) X (th_da dtX3_someoneComes 43 rfl) rfl ?_
    refine V_getR (pc := 80) (j := 3) (t := 27) X (th_da dtX3_someoneComes 44 rfl) wfl_X3_30 iX3 rfl rfl (Nat.le_of_ble_eq_true rfl) rfl ?_
    refine V_iload (pc := 83) X (th_da dtX3_someoneComes 45 rfl) rfl ?_
    refine V_iload (pc := 85) X (th_da dtX3_someoneComes 46 rfl) rfl ?_
    refine V_iload (pc := 87) X (th_da dtX3_someoneComes 47 rfl) rfl ?_
    refine V_iconst (pc := 89) (v := 0) X (th_da dtX3_someoneComes 48 rfl) (by decide) ?_
    refine V_iload (pc := 90) X (th_da dtX3_someoneComes 49 rfl) rfl ?_
    obtain ⟨u7, h7, e7, hf⟩ := th_bd_some hf
    refine V_callVi (pc := 92) (q := 27) (As := [.int (th_rem u1 1000000), .int ((1 : Int32) + (th_rem u2 1023)), .int ((1 : Int32) + (th_rem u3 9)), .int 0, .int (th_rem u4 1000)]) X (th_da dtX3_someoneComes 50 rfl) (mX1_takeIn l 27 isQ_27 _ _ _ _ _ _ _ _ e7) wcd_X1_takeIn wml_X3_76 wim_X1_takeIn wse_X1_takeIn win_X1_takeIn hd_X1_takeIn ⟨Nat.le_of_ble_eq_true rfl, Nat.le_of_ble_eq_true rfl⟩ (Nat.le_of_ble_eq_true rfl) rfl rfl rfl ?_
    refine V_pop (pc := 95) X (th_da dtX3_someoneComes 51 rfl) rfl ?_
    refine V_iload (pc := 96) X (th_da dtX3_someoneComes 52 rfl) rfl ?_
    exact V_iretF (pc := 98) X (th_da dtX3_someoneComes 53 rfl) hf
  · rw [if_neg c6] at hf
    refine V_iload (pc := 96) X (th_da dtX3_someoneComes 52 rfl) rfl ?_
    exact V_iretF (pc := 98) X (th_da dtX3_someoneComes 53 rfl) hf
end
def fX3_someoneGoes_c33 : Nat → Int32 → Int32 → Int32 → th_H → Option (Int32 × th_H)
  | 0, _, _, _, _ => none
  | n + 1, y3, y4, y5, h =>
    if (y5 < 20 : Prop) then
      th_bd (fX0_has 28 y5 h) fun u2 h2 =>
      if (u2 = 0 : Prop) then
        fX3_someoneGoes_c33 n y3 y4 (y5 + 1) h2
      else
        if (y4 = 0 : Prop) then
          th_bd (fX1_letGo 27 y5 h2) fun _u5 h5 =>
          some (y3, h5)
        else
          fX3_someoneGoes_c33 n y3 (y4 + (-1)) (y5 + 1) h2
    else
      some (y3, h)
def fX3_someoneGoes (x1 : Int32) (h : th_H) : Option (Int32 × th_H) :=
  th_bd (fJ6_bitCount_0f7a4 (h.1 28 7) h) fun u1 h1 =>
  if (u1 = 0 : Prop) then
    some (x1, h1)
  else
    th_bd (fX3_draw x1 h1) fun u3 h3 =>
    th_dv u1 <|
    fX3_someoneGoes_c33 1000 u3 (th_rem u3 u1) 0 h3
def tbX3_someoneGoes : List (Nat × Instr × Nat) := [(0, .aload_n 0, 1), (1, .getfield 30, 3), (4, .getfield 16, 3), (7, .getfield 87, 3), (10, .invokestatic 91, 3), (13, .istore_n 2, 1), (14, .iload_n 2, 1), (15, .ifCond .ne 5, 3), (18, .iload_n 1, 1), (19, .ireturn, 1), (20, .iload_n 1, 1), (21, .invokestatic 349, 3), (24, .istore_n 3, 1), (25, .iload_n 3, 1), (26, .iload_n 2, 1), (27, .irem, 1), (28, .istore 4, 2), (30, .iconst 0, 1), (31, .istore 5, 2), (33, .iload 5, 2), (35, .bipush 20, 2), (37, .if_icmp .ge 43, 3), (40, .aload_n 0, 1), (41, .getfield 30, 3), (44, .getfield 16, 3), (47, .iload 5, 2), (49, .invokevirtual 80, 3), (52, .ifCond .eq 22, 3), (55, .iload 4, 2), (57, .ifCond .ne 14, 3), (60, .aload_n 0, 1), (61, .getfield 30, 3), (64, .iload 5, 2), (66, .invokevirtual 83, 3), (69, .iload_n 3, 1), (70, .ireturn, 1), (71, .iinc 4 (-1), 3), (74, .iinc 5 1, 3), (77, .goto (-44), 3), (80, .iload_n 3, 1), (81, .ireturn, 1)]
theorem dtX3_someoneGoes : th_dec cX3_someoneGoes tbX3_someoneGoes = true := by decide +kernel
section
variable {p0 : Program} {l : Launch} {e : Env} {s : State} {m : MethodId} {args : Array Value} {below : List Frame} {meth : Method} {c : Code} {D : va_G} {cI cZ : ClassId} {ad : Nat → Nat} {rr : Int32} {hh : th_H}
set_option maxHeartbeats 4000000 in
set_option maxRecDepth 100000 in
theorem tX3_someoneGoes_c33 (X : th_X p0 s m args meth c D cI cZ ad LC 6 RX3 cX3_someoneGoes (some .int)) : ∀ (n : Nat) (y3 : Int32) (y4 : Int32) (y5 : Int32) (h : th_H), fX3_someoneGoes_c33 n y3 y4 y5 h = some (rr, hh) → th_V p0 l e { frames := 4, cells := 0, slots := 0, locals := 88 } s m args below meth c D cI cZ ad LC 6 (some (.int rr)) hh 33 [.ref 0, .null, .null, .int y3, .int y4, .int y5] [] h := by
  intro n
  induction n with
  | zero => intro y3 y4 y5 h hf; cases hf
  | succ n ih =>
    intro y3 y4 y5 h hf
    rw [fX3_someoneGoes_c33] at hf
    refine V_iload (pc := 33) X (th_da dtX3_someoneGoes 19 rfl) rfl ?_
    refine V_bipush (pc := 35) (v := 20) X (th_da dtX3_someoneGoes 20 rfl) (by decide) ?_
    refine V_icmp_ge (pc := 37) (tgt := 80) X (th_da dtX3_someoneGoes 21 rfl) (by decide) (fun c1 => ?_) (fun c1 => ?_)
    · rw [if_pos c1] at hf
      refine V_aload_n (pc := 40) X (th_da dtX3_someoneGoes 22 rfl) rfl ?_
      refine V_getR (pc := 41) (j := 3) (t := 27) X (th_da dtX3_someoneGoes 23 rfl) wfl_X3_30 iX3 rfl rfl (Nat.le_of_ble_eq_true rfl) rfl ?_
      refine V_getR (pc := 44) (j := 0) (t := 28) X (th_da dtX3_someoneGoes 24 rfl) wfl_X3_16 iX1 rfl rfl (Nat.le_of_ble_eq_true rfl) rfl ?_
      refine V_iload (pc := 47) X (th_da dtX3_someoneGoes 25 rfl) rfl ?_
      obtain ⟨u2, h2, e2, hf⟩ := th_bd_some hf
      refine V_callVi (pc := 49) (q := 28) (As := [.int y5]) X (th_da dtX3_someoneGoes 26 rfl) (mX0_has l 28 (Q_p isQ_27) _ _ _ _ e2) wcd_X0_has wml_X3_80 wim_X0_has wse_X0_has win_X0_has hd_X0_has ⟨Nat.le_of_ble_eq_true rfl, Nat.le_of_ble_eq_true rfl⟩ (Nat.le_of_ble_eq_true rfl) rfl rfl rfl ?_
      refine V_if_eq (pc := 52) (tgt := 74) X (th_da dtX3_someoneGoes 27 rfl) (by decide) (fun c3 => ?_) (fun c3 => ?_)
      · rw [if_pos c3] at hf
        refine V_iinc (pc := 74) (v := y5 + 1) (ls2 := [.ref 0, .null, .null, .int y3, .int y4, .int (y5 + 1)]) X (th_da dtX3_someoneGoes 37 rfl) rfl rfl (Nat.le_of_ble_eq_true rfl) rfl rfl ?_
        refine V_goto (pc := 77) (tgt := 33) X (th_da dtX3_someoneGoes 38 rfl) (by decide) ?_
        exact ih _ _ _ _ hf
      · rw [if_neg c3] at hf
        refine V_iload (pc := 55) X (th_da dtX3_someoneGoes 28 rfl) rfl ?_
        refine V_if_ne (pc := 57) (tgt := 71) X (th_da dtX3_someoneGoes 29 rfl) (by decide) (fun c4 => ?_) (fun c4 => ?_)
        · rw [if_pos c4] at hf
          refine V_aload_n (pc := 60) X (th_da dtX3_someoneGoes 30 rfl) rfl ?_
          refine V_getR (pc := 61) (j := 3) (t := 27) X (th_da dtX3_someoneGoes 31 rfl) wfl_X3_30 iX3 rfl rfl (Nat.le_of_ble_eq_true rfl) rfl ?_
          refine V_iload (pc := 64) X (th_da dtX3_someoneGoes 32 rfl) rfl ?_
          obtain ⟨u5, h5, e5, hf⟩ := th_bd_some hf
          refine V_callVv (pc := 66) (q := 27) (As := [.int y5]) X (th_da dtX3_someoneGoes 33 rfl) (mX1_letGo l 27 isQ_27 _ _ _ _ e5) wcd_X1_letGo wml_X3_83 wim_X1_letGo wse_X1_letGo win_X1_letGo hd_X1_letGo ⟨Nat.le_of_ble_eq_true rfl, Nat.le_of_ble_eq_true rfl⟩ (Nat.le_of_ble_eq_true rfl) rfl rfl rfl ?_
          refine V_iload_n (pc := 69) X (th_da dtX3_someoneGoes 34 rfl) rfl ?_
          exact V_iretF (pc := 70) X (th_da dtX3_someoneGoes 35 rfl) hf
        · rw [if_neg c4] at hf
          refine V_iinc (pc := 71) (v := y4 + (-1)) (ls2 := [.ref 0, .null, .null, .int y3, .int (y4 + (-1)), .int y5]) X (th_da dtX3_someoneGoes 36 rfl) rfl rfl (Nat.le_of_ble_eq_true rfl) rfl rfl ?_
          refine V_iinc (pc := 74) (v := y5 + 1) (ls2 := [.ref 0, .null, .null, .int y3, .int (y4 + (-1)), .int (y5 + 1)]) X (th_da dtX3_someoneGoes 37 rfl) rfl rfl (Nat.le_of_ble_eq_true rfl) rfl rfl ?_
          refine V_goto (pc := 77) (tgt := 33) X (th_da dtX3_someoneGoes 38 rfl) (by decide) ?_
          exact ih _ _ _ _ hf
    · rw [if_neg c1] at hf
      refine V_iload_n (pc := 80) X (th_da dtX3_someoneGoes 39 rfl) rfl ?_
      exact V_iretF (pc := 81) X (th_da dtX3_someoneGoes 40 rfl) hf
set_option maxHeartbeats 4000000 in
set_option maxRecDepth 100000 in
theorem mX3_someoneGoes (l : Launch) (x1 : Int32) (h : th_H) (rr : Int32) (hh : th_H) (hf : fX3_someoneGoes x1 h = some (rr, hh)) : th_MI l LC yX3_someoneGoes cX3_someoneGoes 6 (some .int) 4 88 [.ref 0, .int x1] h (some (.int rr)) hh := by
  refine th_MI_of (ls := [.ref 0, .int x1, .null, .null, .null, .null]) RX3 rfl rfl rfl (Nat.le_of_ble_eq_true rfl) ?_
  intro p0 e s m args below meth c D cI cZ ad X
  unfold fX3_someoneGoes at hf
  refine V_aload_n (pc := 0) X (th_da dtX3_someoneGoes 0 rfl) rfl ?_
  refine V_getR (pc := 1) (j := 3) (t := 27) X (th_da dtX3_someoneGoes 1 rfl) wfl_X3_30 iX3 rfl rfl (Nat.le_of_ble_eq_true rfl) rfl ?_
  refine V_getR (pc := 4) (j := 0) (t := 28) X (th_da dtX3_someoneGoes 2 rfl) wfl_X3_16 iX1 rfl rfl (Nat.le_of_ble_eq_true rfl) rfl ?_
  refine V_getI (pc := 7) (j := 7) X (th_da dtX3_someoneGoes 3 rfl) wfl_X3_87 iX0 rfl rfl (Nat.le_of_ble_eq_true rfl) rfl ?_
  obtain ⟨u1, h1, e1, hf⟩ := th_bd_some hf
  refine V_callSi (pc := 10) (As := [.int (h.1 28 7)]) X (th_da dtX3_someoneGoes 4 rfl) (mJ6_bitCount_0f7a4 l _ _ _ _ e1) wcd_J6_bitCount_0f7a4 wml_X3_91 wst_J6_bitCount_0f7a4 win_J6_bitCount_0f7a4 hd_J6_bitCount_0f7a4 ⟨Nat.le_of_ble_eq_true rfl, Nat.le_of_ble_eq_true rfl⟩ (Nat.le_of_ble_eq_true rfl) rfl ?_
  refine V_istore_n (pc := 13) (ls2 := [.ref 0, .int x1, .int u1, .null, .null, .null]) X (th_da dtX3_someoneGoes 5 rfl) (Nat.le_of_ble_eq_true rfl) rfl rfl ?_
  refine V_iload_n (pc := 14) X (th_da dtX3_someoneGoes 6 rfl) rfl ?_
  refine V_if_ne (pc := 15) (tgt := 20) X (th_da dtX3_someoneGoes 7 rfl) (by decide) (fun c2 => ?_) (fun c2 => ?_)
  · rw [if_pos c2] at hf
    refine V_iload_n (pc := 18) X (th_da dtX3_someoneGoes 8 rfl) rfl ?_
    exact V_iretF (pc := 19) X (th_da dtX3_someoneGoes 9 rfl) hf
  · rw [if_neg c2] at hf
    refine V_iload_n (pc := 20) X (th_da dtX3_someoneGoes 10 rfl) rfl ?_
    obtain ⟨u3, h3, e3, hf⟩ := th_bd_some hf
    refine V_callSi (pc := 21) (As := [.int x1]) X (th_da dtX3_someoneGoes 11 rfl) (mX3_draw l _ _ _ _ e3) wcd_X3_draw wml_X3_349 wst_X3_draw win_X3_draw hd_X3_draw ⟨Nat.le_of_ble_eq_true rfl, Nat.le_of_ble_eq_true rfl⟩ (Nat.le_of_ble_eq_true rfl) rfl ?_
    refine V_istore_n (pc := 24) (ls2 := [.ref 0, .int x1, .int u1, .int u3, .null, .null]) X (th_da dtX3_someoneGoes 12 rfl) (Nat.le_of_ble_eq_true rfl) rfl rfl ?_
    refine V_iload_n (pc := 25) X (th_da dtX3_someoneGoes 13 rfl) rfl ?_
    refine V_iload_n (pc := 26) X (th_da dtX3_someoneGoes 14 rfl) rfl ?_
    obtain ⟨g4, hf⟩ := th_dv_some hf
    refine V_irem (pc := 27) X (th_da dtX3_someoneGoes 15 rfl) g4 ?_
    refine V_istore (pc := 28) (ls2 := [.ref 0, .int x1, .int u1, .int u3, .int (th_rem u3 u1), .null]) X (th_da dtX3_someoneGoes 16 rfl) (Nat.le_of_ble_eq_true rfl) rfl rfl ?_
    refine V_iconst (pc := 30) (v := 0) X (th_da dtX3_someoneGoes 17 rfl) (by decide) ?_
    refine V_istore (pc := 31) (ls2 := [.ref 0, .int x1, .int u1, .int u3, .int (th_rem u3 u1), .int 0]) X (th_da dtX3_someoneGoes 18 rfl) (Nat.le_of_ble_eq_true rfl) rfl rfl ?_
    refine V_mask [true, false, false, true, true, true] (ls2 := [.ref 0, .null, .null, .int u3, .int (th_rem u3 u1), .int 0]) rfl ?_
    exact tX3_someoneGoes_c33 X _ _ _ _ _ hf
end
def fX3_blow (x1 : Int32) (h : th_H) : Option (Int32 × th_H) :=
  th_bd (fX3_draw x1 h) fun u1 h1 =>
  if ((th_rem u1 4) = 0 : Prop) then
    th_bd (fX3_someoneComes u1 h1) fun u3 h3 =>
    some (u3, h3)
  else
    if ((th_rem u1 4) = 1 : Prop) then
      th_bd (fX3_someoneGoes u1 h1) fun u5 h5 =>
      some (u5, h5)
    else
      some (u1, h1)
def tbX3_blow : List (Nat × Instr × Nat) := [(0, .iload_n 1, 1), (1, .invokestatic 349, 3), (4, .istore_n 2, 1), (5, .iload_n 2, 1), (6, .iconst 4, 1), (7, .irem, 1), (8, .ifCond .ne 9, 3), (11, .aload_n 0, 1), (12, .iload_n 2, 1), (13, .invokevirtual 352, 3), (16, .ireturn, 1), (17, .iload_n 2, 1), (18, .iconst 4, 1), (19, .irem, 1), (20, .iconst 1, 1), (21, .if_icmp .ne 11, 3), (24, .aload_n 0, 1), (25, .iload_n 2, 1), (26, .invokevirtual 355, 3), (29, .goto 4, 3), (32, .iload_n 2, 1), (33, .ireturn, 1)]
theorem dtX3_blow : th_dec cX3_blow tbX3_blow = true := by decide +kernel
section
variable {p0 : Program} {l : Launch} {e : Env} {s : State} {m : MethodId} {args : Array Value} {below : List Frame} {meth : Method} {c : Code} {D : va_G} {cI cZ : ClassId} {ad : Nat → Nat} {rr : Int32} {hh : th_H}
set_option maxHeartbeats 4000000 in
set_option maxRecDepth 100000 in
theorem mX3_blow (l : Launch) (x1 : Int32) (h : th_H) (rr : Int32) (hh : th_H) (hf : fX3_blow x1 h = some (rr, hh)) : th_MI l LC yX3_blow cX3_blow 3 (some .int) 5 127 [.ref 0, .int x1] h (some (.int rr)) hh := by
  refine th_MI_of (ls := [.ref 0, .int x1, .null]) RX3 rfl rfl rfl (Nat.le_of_ble_eq_true rfl) ?_
  intro p0 e s m args below meth c D cI cZ ad X
  unfold fX3_blow at hf
  refine V_iload_n (pc := 0) X (th_da dtX3_blow 0 rfl) rfl ?_
  obtain ⟨u1, h1, e1, hf⟩ := th_bd_some hf
  refine V_callSi (pc := 1) (As := [.int x1]) X (th_da dtX3_blow 1 rfl) (mX3_draw l _ _ _ _ e1) wcd_X3_draw wml_X3_349 wst_X3_draw win_X3_draw hd_X3_draw ⟨Nat.le_of_ble_eq_true rfl, Nat.le_of_ble_eq_true rfl⟩ (Nat.le_of_ble_eq_true rfl) rfl ?_
  refine V_istore_n (pc := 4) (ls2 := [.ref 0, .int x1, .int u1]) X (th_da dtX3_blow 2 rfl) (Nat.le_of_ble_eq_true rfl) rfl rfl ?_
  refine V_iload_n (pc := 5) X (th_da dtX3_blow 3 rfl) rfl ?_
  refine V_iconst (pc := 6) (v := 4) X (th_da dtX3_blow 4 rfl) (by decide) ?_
  refine V_irem (pc := 7) X (th_da dtX3_blow 5 rfl) (by decide) ?_
  refine V_if_ne (pc := 8) (tgt := 17) X (th_da dtX3_blow 6 rfl) (by decide) (fun c2 => ?_) (fun c2 => ?_)
  · rw [if_pos c2] at hf
    refine V_aload_n (pc := 11) X (th_da dtX3_blow 7 rfl) rfl ?_
    refine V_iload_n (pc := 12) X (th_da dtX3_blow 8 rfl) rfl ?_
    obtain ⟨u3, h3, e3, hf⟩ := th_bd_some hf
    refine V_callVi (pc := 13) (q := 0) (As := [.int u1]) X (th_da dtX3_blow 9 rfl) (mX3_someoneComes l _ _ _ _ e3) wcd_X3_someoneComes wml_X3_352 wim_X3_someoneComes wse_X3_someoneComes win_X3_someoneComes hd_X3_someoneComes ⟨Nat.le_of_ble_eq_true rfl, Nat.le_of_ble_eq_true rfl⟩ (Nat.le_of_ble_eq_true rfl) rfl rfl rfl ?_
    exact V_iretF (pc := 16) X (th_da dtX3_blow 10 rfl) hf
  · rw [if_neg c2] at hf
    refine V_iload_n (pc := 17) X (th_da dtX3_blow 11 rfl) rfl ?_
    refine V_iconst (pc := 18) (v := 4) X (th_da dtX3_blow 12 rfl) (by decide) ?_
    refine V_irem (pc := 19) X (th_da dtX3_blow 13 rfl) (by decide) ?_
    refine V_iconst (pc := 20) (v := 1) X (th_da dtX3_blow 14 rfl) (by decide) ?_
    refine V_icmp_ne (pc := 21) (tgt := 32) X (th_da dtX3_blow 15 rfl) (by decide) (fun c4 => ?_) (fun c4 => ?_)
    · rw [if_pos c4] at hf
      refine V_aload_n (pc := 24) X (th_da dtX3_blow 16 rfl) rfl ?_
      refine V_iload_n (pc := 25) X (th_da dtX3_blow 17 rfl) rfl ?_
      obtain ⟨u5, h5, e5, hf⟩ := th_bd_some hf
      refine V_callVi (pc := 26) (q := 0) (As := [.int u1]) X (th_da dtX3_blow 18 rfl) (mX3_someoneGoes l _ _ _ _ e5) wcd_X3_someoneGoes wml_X3_355 wim_X3_someoneGoes wse_X3_someoneGoes win_X3_someoneGoes hd_X3_someoneGoes ⟨Nat.le_of_ble_eq_true rfl, Nat.le_of_ble_eq_true rfl⟩ (Nat.le_of_ble_eq_true rfl) rfl rfl rfl ?_
      refine V_goto (pc := 29) (tgt := 33) X (th_da dtX3_blow 19 rfl) (by decide) ?_
      exact V_iretF (pc := 33) X (th_da dtX3_blow 21 rfl) hf
    · rw [if_neg c4] at hf
      refine V_iload_n (pc := 32) X (th_da dtX3_blow 20 rfl) rfl ?_
      exact V_iretF (pc := 33) X (th_da dtX3_blow 21 rfl) hf
end
def fX3_storm_c87 (k56 : Int32 → Int32 → Int32 → Int32 → Int32 → Int32 → th_H → Option (Int32 × th_H)) (y2 : Int32) (y3 : Int32) (y4 : Int32) (y6 : Int32) (y7 : Int32) (z0 : Int32) (z1 : Int32) (h : th_H) : Option (Int32 × th_H) :=
  th_bd (fX1_overbooked 27 h) fun u1 h1 =>
  if (u1 = 0 : Prop) then
    k56 y2 y3 y4 (z0 + z1) (y6 + 0) (y7 + 1) h1
  else
    k56 y2 y3 y4 (z0 + z1) (y6 + 1) (y7 + 1) h1
def fX3_storm_c56 : Nat → Int32 → Int32 → Int32 → Int32 → Int32 → Int32 → th_H → Option (Int32 × th_H)
  | 0, _, _, _, _, _, _, _ => none
  | n + 1, y2, y3, y4, y5, y6, y7, h =>
    if (y7 < y2 : Prop) then
      th_bd (fX3_blow y4 h) fun u2 h2 =>
      th_bd (fX1_goRound 27 h2) fun u3 h3 =>
      if (u3 = 0 : Prop) then
        fX3_storm_c87 (fX3_storm_c56 n) y2 y3 u2 y6 y7 y5 0 h3
      else
        fX3_storm_c87 (fX3_storm_c56 n) y2 y3 u2 y6 y7 y5 1 h3
    else
      if (y3 = 0 : Prop) then
        some (y5, h)
      else
        if (y3 = 1 : Prop) then
          some (y6, h)
        else
          th_bd (fJ6_bitCount_0f7a4 (h.1 28 7) h) fun u7 h7 =>
          some (u7, h7)
def fX3_storm (x1 : Int32) (x2 : Int32) (x3 : Int32) (h : th_H) : Option (Int32 × th_H) :=
  if (x1 < 0 : Prop) then
    some ((-1), h)
  else
    if (x1 < 1000000 : Prop) then
      if (x2 < 1 : Prop) then
        some ((-1), h)
      else
        if (40 < x2 : Prop) then
          some ((-1), h)
        else
          if (x3 < 0 : Prop) then
            some ((-1), h)
          else
            if (2 < x3 : Prop) then
              some ((-1), h)
            else
              th_bd (fX1_copy 27 1 h) fun _u7 h7 =>
              fX3_storm_c56 1000 x2 x3 x1 0 0 0 h7
    else
      some ((-1), h)
def tbX3_storm : List (Nat × Instr × Nat) := [(0, .iload_n 1, 1), (1, .ifCond .lt 30, 3), (4, .iload_n 1, 1), (5, .ldc_w 277, 3), (8, .if_icmp .ge 23, 3), (11, .iload_n 2, 1), (12, .iconst 1, 1), (13, .if_icmp .lt 18, 3), (16, .iload_n 2, 1), (17, .bipush 40, 2), (19, .if_icmp .gt 12, 3), (22, .iload_n 3, 1), (23, .ifCond .lt 8, 3), (26, .iload_n 3, 1), (27, .iconst 2, 1), (28, .if_icmp .le 5, 3), (31, .iconst (-1), 1), (32, .ireturn, 1), (33, .aload_n 0, 1), (34, .getfield 30, 3), (37, .aload_n 0, 1), (38, .getfield 12, 3), (41, .invokevirtual 151, 3), (44, .iload_n 1, 1), (45, .istore 4, 2), (47, .iconst 0, 1), (48, .istore 5, 2), (50, .iconst 0, 1), (51, .istore 6, 2), (53, .iconst 0, 1), (54, .istore 7, 2), (56, .iload 7, 2), (58, .iload_n 2, 1), (59, .if_icmp .ge 57, 3), (62, .aload_n 0, 1), (63, .iload 4, 2), (65, .invokevirtual 316, 3), (68, .istore 4, 2), (70, .iload 5, 2), (72, .aload_n 0, 1), (73, .getfield 30, 3), (76, .invokevirtual 144, 3), (79, .ifCond .eq 7, 3), (82, .iconst 1, 1), (83, .goto 4, 3), (86, .iconst 0, 1), (87, .iadd, 1), (88, .istore 5, 2), (90, .iload 6, 2), (92, .aload_n 0, 1), (93, .getfield 30, 3), (96, .invokevirtual 267, 3), (99, .ifCond .eq 7, 3), (102, .iconst 1, 1), (103, .goto 4, 3), (106, .iconst 0, 1), (107, .iadd, 1), (108, .istore 6, 2), (110, .iinc 7 1, 3), (113, .goto (-57), 3), (116, .iload_n 3, 1), (117, .ifCond .ne 6, 3), (120, .iload 5, 2), (122, .ireturn, 1), (123, .iload_n 3, 1), (124, .iconst 1, 1), (125, .if_icmp .ne 8, 3), (128, .iload 6, 2), (130, .goto 16, 3), (133, .aload_n 0, 1), (134, .getfield 30, 3), (137, .getfield 16, 3), (140, .getfield 87, 3), (143, .invokestatic 91, 3), (146, .ireturn, 1)]
theorem dtX3_storm : th_dec cX3_storm tbX3_storm = true := by decide +kernel
section
variable {p0 : Program} {l : Launch} {e : Env} {s : State} {m : MethodId} {args : Array Value} {below : List Frame} {meth : Method} {c : Code} {D : va_G} {cI cZ : ClassId} {ad : Nat → Nat} {rr : Int32} {hh : th_H}
set_option maxHeartbeats 4000000 in
set_option maxRecDepth 100000 in
theorem tX3_storm_c87 (X : th_X p0 s m args meth c D cI cZ ad LC 8 RX3 cX3_storm (some .int)) (k56 : Int32 → Int32 → Int32 → Int32 → Int32 → Int32 → th_H → Option (Int32 × th_H)) (hk56 : ∀ (y2 : Int32) (y3 : Int32) (y4 : Int32) (y5 : Int32) (y6 : Int32) (y7 : Int32) (h : th_H), k56 y2 y3 y4 y5 y6 y7 h = some (rr, hh) → th_V p0 l e { frames := 6, cells := 0, slots := 0, locals := 149 } s m args below meth c D cI cZ ad LC 8 (some (.int rr)) hh 56 [.ref 0, .null, .int y2, .int y3, .int y4, .int y5, .int y6, .int y7] [] h) (y2 : Int32) (y3 : Int32) (y4 : Int32) (y6 : Int32) (y7 : Int32) (z0 : Int32) (z1 : Int32) (h : th_H) (hf : fX3_storm_c87 k56 y2 y3 y4 y6 y7 z0 z1 h = some (rr, hh)) : th_V p0 l e { frames := 6, cells := 0, slots := 0, locals := 149 } s m args below meth c D cI cZ ad LC 8 (some (.int rr)) hh 87 [.ref 0, .null, .int y2, .int y3, .int y4, .null, .int y6, .int y7] [.int z1, .int z0] h := by
  unfold fX3_storm_c87 at hf
  refine V_iadd (pc := 87) X (th_da dtX3_storm 46 rfl) ?_
  refine V_istore (pc := 88) (ls2 := [.ref 0, .null, .int y2, .int y3, .int y4, .int (z0 + z1), .int y6, .int y7]) X (th_da dtX3_storm 47 rfl) (Nat.le_of_ble_eq_true rfl) rfl rfl ?_
  refine V_iload (pc := 90) X (th_da dtX3_storm 48 rfl) rfl ?_
  refine V_aload_n (pc := 92) X (th_da dtX3_storm 49 rfl) rfl ?_
  refine V_getR (pc := 93) (j := 3) (t := 27) X (th_da dtX3_storm 50 rfl) wfl_X3_30 iX3 rfl rfl (Nat.le_of_ble_eq_true rfl) rfl ?_
  obtain ⟨u1, h1, e1, hf⟩ := th_bd_some hf
  refine V_callVi (pc := 96) (q := 27) (As := []) X (th_da dtX3_storm 51 rfl) (mX1_overbooked l 27 isQ_27 _ _ _ e1) wcd_X1_overbooked wml_X3_267 wim_X1_overbooked wse_X1_overbooked win_X1_overbooked hd_X1_overbooked ⟨Nat.le_of_ble_eq_true rfl, Nat.le_of_ble_eq_true rfl⟩ (Nat.le_of_ble_eq_true rfl) rfl rfl rfl ?_
  refine V_if_eq (pc := 99) (tgt := 106) X (th_da dtX3_storm 52 rfl) (by decide) (fun c2 => ?_) (fun c2 => ?_)
  · rw [if_pos c2] at hf
    refine V_iconst (pc := 106) (v := 0) X (th_da dtX3_storm 55 rfl) (by decide) ?_
    refine V_iadd (pc := 107) X (th_da dtX3_storm 56 rfl) ?_
    refine V_istore (pc := 108) (ls2 := [.ref 0, .null, .int y2, .int y3, .int y4, .int (z0 + z1), .int (y6 + 0), .int y7]) X (th_da dtX3_storm 57 rfl) (Nat.le_of_ble_eq_true rfl) rfl rfl ?_
    refine V_iinc (pc := 110) (v := y7 + 1) (ls2 := [.ref 0, .null, .int y2, .int y3, .int y4, .int (z0 + z1), .int (y6 + 0), .int (y7 + 1)]) X (th_da dtX3_storm 58 rfl) rfl rfl (Nat.le_of_ble_eq_true rfl) rfl rfl ?_
    refine V_goto (pc := 113) (tgt := 56) X (th_da dtX3_storm 59 rfl) (by decide) ?_
    exact hk56 _ _ _ _ _ _ _ hf
  · rw [if_neg c2] at hf
    refine V_iconst (pc := 102) (v := 1) X (th_da dtX3_storm 53 rfl) (by decide) ?_
    refine V_goto (pc := 103) (tgt := 107) X (th_da dtX3_storm 54 rfl) (by decide) ?_
    refine V_iadd (pc := 107) X (th_da dtX3_storm 56 rfl) ?_
    refine V_istore (pc := 108) (ls2 := [.ref 0, .null, .int y2, .int y3, .int y4, .int (z0 + z1), .int (y6 + 1), .int y7]) X (th_da dtX3_storm 57 rfl) (Nat.le_of_ble_eq_true rfl) rfl rfl ?_
    refine V_iinc (pc := 110) (v := y7 + 1) (ls2 := [.ref 0, .null, .int y2, .int y3, .int y4, .int (z0 + z1), .int (y6 + 1), .int (y7 + 1)]) X (th_da dtX3_storm 58 rfl) rfl rfl (Nat.le_of_ble_eq_true rfl) rfl rfl ?_
    refine V_goto (pc := 113) (tgt := 56) X (th_da dtX3_storm 59 rfl) (by decide) ?_
    exact hk56 _ _ _ _ _ _ _ hf
set_option maxHeartbeats 4000000 in
set_option maxRecDepth 100000 in
theorem tX3_storm_c56 (X : th_X p0 s m args meth c D cI cZ ad LC 8 RX3 cX3_storm (some .int)) : ∀ (n : Nat) (y2 : Int32) (y3 : Int32) (y4 : Int32) (y5 : Int32) (y6 : Int32) (y7 : Int32) (h : th_H), fX3_storm_c56 n y2 y3 y4 y5 y6 y7 h = some (rr, hh) → th_V p0 l e { frames := 6, cells := 0, slots := 0, locals := 149 } s m args below meth c D cI cZ ad LC 8 (some (.int rr)) hh 56 [.ref 0, .null, .int y2, .int y3, .int y4, .int y5, .int y6, .int y7] [] h := by
  intro n
  induction n with
  | zero => intro y2 y3 y4 y5 y6 y7 h hf; cases hf
  | succ n ih =>
    intro y2 y3 y4 y5 y6 y7 h hf
    rw [fX3_storm_c56] at hf
    refine V_iload (pc := 56) X (th_da dtX3_storm 31 rfl) rfl ?_
    refine V_iload_n (pc := 58) X (th_da dtX3_storm 32 rfl) rfl ?_
    refine V_icmp_ge (pc := 59) (tgt := 116) X (th_da dtX3_storm 33 rfl) (by decide) (fun c1 => ?_) (fun c1 => ?_)
    · rw [if_pos c1] at hf
      refine V_aload_n (pc := 62) X (th_da dtX3_storm 34 rfl) rfl ?_
      refine V_iload (pc := 63) X (th_da dtX3_storm 35 rfl) rfl ?_
      obtain ⟨u2, h2, e2, hf⟩ := th_bd_some hf
      refine V_callVi (pc := 65) (q := 0) (As := [.int y4]) X (th_da dtX3_storm 36 rfl) (mX3_blow l _ _ _ _ e2) wcd_X3_blow wml_X3_316 wim_X3_blow wse_X3_blow win_X3_blow hd_X3_blow ⟨Nat.le_of_ble_eq_true rfl, Nat.le_of_ble_eq_true rfl⟩ (Nat.le_of_ble_eq_true rfl) rfl rfl rfl ?_
      refine V_istore (pc := 68) (ls2 := [.ref 0, .null, .int y2, .int y3, .int u2, .int y5, .int y6, .int y7]) X (th_da dtX3_storm 37 rfl) (Nat.le_of_ble_eq_true rfl) rfl rfl ?_
      refine V_iload (pc := 70) X (th_da dtX3_storm 38 rfl) rfl ?_
      refine V_aload_n (pc := 72) X (th_da dtX3_storm 39 rfl) rfl ?_
      refine V_getR (pc := 73) (j := 3) (t := 27) X (th_da dtX3_storm 40 rfl) wfl_X3_30 iX3 rfl rfl (Nat.le_of_ble_eq_true rfl) rfl ?_
      obtain ⟨u3, h3, e3, hf⟩ := th_bd_some hf
      refine V_callVi (pc := 76) (q := 27) (As := []) X (th_da dtX3_storm 41 rfl) (mX1_goRound l 27 isQ_27 _ _ _ e3) wcd_X1_goRound wml_X3_144 wim_X1_goRound wse_X1_goRound win_X1_goRound hd_X1_goRound ⟨Nat.le_of_ble_eq_true rfl, Nat.le_of_ble_eq_true rfl⟩ (Nat.le_of_ble_eq_true rfl) rfl rfl rfl ?_
      refine V_if_eq (pc := 79) (tgt := 86) X (th_da dtX3_storm 42 rfl) (by decide) (fun c4 => ?_) (fun c4 => ?_)
      · rw [if_pos c4] at hf
        refine V_iconst (pc := 86) (v := 0) X (th_da dtX3_storm 45 rfl) (by decide) ?_
        refine V_mask [true, false, true, true, true, false, true, true] (ls2 := [.ref 0, .null, .int y2, .int y3, .int u2, .null, .int y6, .int y7]) rfl ?_
        exact tX3_storm_c87 X _ ih _ _ _ _ _ _ _ _ hf
      · rw [if_neg c4] at hf
        refine V_iconst (pc := 82) (v := 1) X (th_da dtX3_storm 43 rfl) (by decide) ?_
        refine V_goto (pc := 83) (tgt := 87) X (th_da dtX3_storm 44 rfl) (by decide) ?_
        refine V_mask [true, false, true, true, true, false, true, true] (ls2 := [.ref 0, .null, .int y2, .int y3, .int u2, .null, .int y6, .int y7]) rfl ?_
        exact tX3_storm_c87 X _ ih _ _ _ _ _ _ _ _ hf
    · rw [if_neg c1] at hf
      refine V_iload_n (pc := 116) X (th_da dtX3_storm 60 rfl) rfl ?_
      refine V_if_ne (pc := 117) (tgt := 123) X (th_da dtX3_storm 61 rfl) (by decide) (fun c5 => ?_) (fun c5 => ?_)
      · rw [if_pos c5] at hf
        refine V_iload (pc := 120) X (th_da dtX3_storm 62 rfl) rfl ?_
        exact V_iretF (pc := 122) X (th_da dtX3_storm 63 rfl) hf
      · rw [if_neg c5] at hf
        refine V_iload_n (pc := 123) X (th_da dtX3_storm 64 rfl) rfl ?_
        refine V_iconst (pc := 124) (v := 1) X (th_da dtX3_storm 65 rfl) (by decide) ?_
        refine V_icmp_ne (pc := 125) (tgt := 133) X (th_da dtX3_storm 66 rfl) (by decide) (fun c6 => ?_) (fun c6 => ?_)
        · rw [if_pos c6] at hf
          refine V_iload (pc := 128) X (th_da dtX3_storm 67 rfl) rfl ?_
          refine V_goto (pc := 130) (tgt := 146) X (th_da dtX3_storm 68 rfl) (by decide) ?_
          exact V_iretF (pc := 146) X (th_da dtX3_storm 74 rfl) hf
        · rw [if_neg c6] at hf
          refine V_aload_n (pc := 133) X (th_da dtX3_storm 69 rfl) rfl ?_
          refine V_getR (pc := 134) (j := 3) (t := 27) X (th_da dtX3_storm 70 rfl) wfl_X3_30 iX3 rfl rfl (Nat.le_of_ble_eq_true rfl) rfl ?_
          refine V_getR (pc := 137) (j := 0) (t := 28) X (th_da dtX3_storm 71 rfl) wfl_X3_16 iX1 rfl rfl (Nat.le_of_ble_eq_true rfl) rfl ?_
          refine V_getI (pc := 140) (j := 7) X (th_da dtX3_storm 72 rfl) wfl_X3_87 iX0 rfl rfl (Nat.le_of_ble_eq_true rfl) rfl ?_
          obtain ⟨u7, h7, e7, hf⟩ := th_bd_some hf
          refine V_callSi (pc := 143) (As := [.int (h.1 28 7)]) X (th_da dtX3_storm 73 rfl) (mJ6_bitCount_0f7a4 l _ _ _ _ e7) wcd_J6_bitCount_0f7a4 wml_X3_91 wst_J6_bitCount_0f7a4 win_J6_bitCount_0f7a4 hd_J6_bitCount_0f7a4 ⟨Nat.le_of_ble_eq_true rfl, Nat.le_of_ble_eq_true rfl⟩ (Nat.le_of_ble_eq_true rfl) rfl ?_
          exact V_iretF (pc := 146) X (th_da dtX3_storm 74 rfl) hf
set_option maxHeartbeats 4000000 in
set_option maxRecDepth 100000 in
theorem mX3_storm (l : Launch) (x1 : Int32) (x2 : Int32) (x3 : Int32) (h : th_H) (rr : Int32) (hh : th_H) (hf : fX3_storm x1 x2 x3 h = some (rr, hh)) : th_MI l LC yX3_storm cX3_storm 8 (some .int) 6 149 [.ref 0, .int x1, .int x2, .int x3] h (some (.int rr)) hh := by
  refine th_MI_of (ls := [.ref 0, .int x1, .int x2, .int x3, .null, .null, .null, .null]) RX3 rfl rfl rfl (Nat.le_of_ble_eq_true rfl) ?_
  intro p0 e s m args below meth c D cI cZ ad X
  unfold fX3_storm at hf
  refine V_iload_n (pc := 0) X (th_da dtX3_storm 0 rfl) rfl ?_
  refine V_if_lt (pc := 1) (tgt := 31) X (th_da dtX3_storm 1 rfl) (by decide) (fun c1 => ?_) (fun c1 => ?_)
  · rw [if_pos c1] at hf
    refine V_iconst (pc := 31) (v := (-1)) X (th_da dtX3_storm 16 rfl) (by decide) ?_
    exact V_iretF (pc := 32) X (th_da dtX3_storm 17 rfl) hf
  · rw [if_neg c1] at hf
    refine V_iload_n (pc := 4) X (th_da dtX3_storm 2 rfl) rfl ?_
    refine V_ldcw (pc := 5) (v := 1000000) X (th_da dtX3_storm 3 rfl) wco_X3_277 ?_
    refine V_icmp_ge (pc := 8) (tgt := 31) X (th_da dtX3_storm 4 rfl) (by decide) (fun c2 => ?_) (fun c2 => ?_)
    · rw [if_pos c2] at hf
      refine V_iload_n (pc := 11) X (th_da dtX3_storm 5 rfl) rfl ?_
      refine V_iconst (pc := 12) (v := 1) X (th_da dtX3_storm 6 rfl) (by decide) ?_
      refine V_icmp_lt (pc := 13) (tgt := 31) X (th_da dtX3_storm 7 rfl) (by decide) (fun c3 => ?_) (fun c3 => ?_)
      · rw [if_pos c3] at hf
        refine V_iconst (pc := 31) (v := (-1)) X (th_da dtX3_storm 16 rfl) (by decide) ?_
        exact V_iretF (pc := 32) X (th_da dtX3_storm 17 rfl) hf
      · rw [if_neg c3] at hf
        refine V_iload_n (pc := 16) X (th_da dtX3_storm 8 rfl) rfl ?_
        refine V_bipush (pc := 17) (v := 40) X (th_da dtX3_storm 9 rfl) (by decide) ?_
        refine V_icmp_gt (pc := 19) (tgt := 31) X (th_da dtX3_storm 10 rfl) (by decide) (fun c4 => ?_) (fun c4 => ?_)
        · rw [if_pos c4] at hf
          refine V_iconst (pc := 31) (v := (-1)) X (th_da dtX3_storm 16 rfl) (by decide) ?_
          exact V_iretF (pc := 32) X (th_da dtX3_storm 17 rfl) hf
        · rw [if_neg c4] at hf
          refine V_iload_n (pc := 22) X (th_da dtX3_storm 11 rfl) rfl ?_
          refine V_if_lt (pc := 23) (tgt := 31) X (th_da dtX3_storm 12 rfl) (by decide) (fun c5 => ?_) (fun c5 => ?_)
          · rw [if_pos c5] at hf
            refine V_iconst (pc := 31) (v := (-1)) X (th_da dtX3_storm 16 rfl) (by decide) ?_
            exact V_iretF (pc := 32) X (th_da dtX3_storm 17 rfl) hf
          · rw [if_neg c5] at hf
            refine V_iload_n (pc := 26) X (th_da dtX3_storm 13 rfl) rfl ?_
            refine V_iconst (pc := 27) (v := 2) X (th_da dtX3_storm 14 rfl) (by decide) ?_
            refine V_icmp_le (pc := 28) (tgt := 33) X (th_da dtX3_storm 15 rfl) (by decide) (fun c6 => ?_) (fun c6 => ?_)
            · rw [if_pos c6] at hf
              refine V_iconst (pc := 31) (v := (-1)) X (th_da dtX3_storm 16 rfl) (by decide) ?_
              exact V_iretF (pc := 32) X (th_da dtX3_storm 17 rfl) hf
            · rw [if_neg c6] at hf
              refine V_aload_n (pc := 33) X (th_da dtX3_storm 18 rfl) rfl ?_
              refine V_getR (pc := 34) (j := 3) (t := 27) X (th_da dtX3_storm 19 rfl) wfl_X3_30 iX3 rfl rfl (Nat.le_of_ble_eq_true rfl) rfl ?_
              refine V_aload_n (pc := 37) X (th_da dtX3_storm 20 rfl) rfl ?_
              refine V_getR (pc := 38) (j := 0) (t := 1) X (th_da dtX3_storm 21 rfl) wfl_X3_12 iX3 rfl rfl (Nat.le_of_ble_eq_true rfl) rfl ?_
              obtain ⟨u7, h7, e7, hf⟩ := th_bd_some hf
              refine V_callVv (pc := 41) (q := 27) (As := [.ref 1]) X (th_da dtX3_storm 22 rfl) (mX1_copy l 27 1 isQ_27 isQ_1 _ _ _ e7) wcd_X1_copy wml_X3_151 wim_X1_copy wse_X1_copy win_X1_copy hd_X1_copy ⟨Nat.le_of_ble_eq_true rfl, Nat.le_of_ble_eq_true rfl⟩ (Nat.le_of_ble_eq_true rfl) rfl rfl rfl ?_
              refine V_iload_n (pc := 44) X (th_da dtX3_storm 23 rfl) rfl ?_
              refine V_istore (pc := 45) (ls2 := [.ref 0, .int x1, .int x2, .int x3, .int x1, .null, .null, .null]) X (th_da dtX3_storm 24 rfl) (Nat.le_of_ble_eq_true rfl) rfl rfl ?_
              refine V_iconst (pc := 47) (v := 0) X (th_da dtX3_storm 25 rfl) (by decide) ?_
              refine V_istore (pc := 48) (ls2 := [.ref 0, .int x1, .int x2, .int x3, .int x1, .int 0, .null, .null]) X (th_da dtX3_storm 26 rfl) (Nat.le_of_ble_eq_true rfl) rfl rfl ?_
              refine V_iconst (pc := 50) (v := 0) X (th_da dtX3_storm 27 rfl) (by decide) ?_
              refine V_istore (pc := 51) (ls2 := [.ref 0, .int x1, .int x2, .int x3, .int x1, .int 0, .int 0, .null]) X (th_da dtX3_storm 28 rfl) (Nat.le_of_ble_eq_true rfl) rfl rfl ?_
              refine V_iconst (pc := 53) (v := 0) X (th_da dtX3_storm 29 rfl) (by decide) ?_
              refine V_istore (pc := 54) (ls2 := [.ref 0, .int x1, .int x2, .int x3, .int x1, .int 0, .int 0, .int 0]) X (th_da dtX3_storm 30 rfl) (Nat.le_of_ble_eq_true rfl) rfl rfl ?_
              refine V_mask [true, false, true, true, true, true, true, true] (ls2 := [.ref 0, .null, .int x2, .int x3, .int x1, .int 0, .int 0, .int 0]) rfl ?_
              exact tX3_storm_c56 X _ _ _ _ _ _ _ _ hf
    · rw [if_neg c2] at hf
      refine V_iconst (pc := 31) (v := (-1)) X (th_da dtX3_storm 16 rfl) (by decide) ?_
      exact V_iretF (pc := 32) X (th_da dtX3_storm 17 rfl) hf
end
def fX3_count (x1 : Int32) (h : th_H) : Option (Int32 × th_H) :=
  if x1 = 0 then
    th_bd (fJ6_bitCount_0f7a4 (h.1 2 7) h) fun u2 h2 =>
    some (u2, h2)
  else
  if x1 = 1 then
    th_bd (fJ6_bitCount_0f7a4 (h.1 1 8) h) fun u4 h4 =>
    some (u4, h4)
  else
  if x1 = 2 then
    th_bd (fX0_linksInUse 2 h) fun u6 h6 =>
    th_bd (fJ6_bitCount_0f7a4 u6 h6) fun u7 h7 =>
    some (u7, h7)
  else
  if x1 = 3 then
    some ((h.1 1 9), h)
  else
  if x1 = 4 then
    some ((h.1 1 10), h)
  else
  if x1 = 5 then
    th_bd (fX1_markCount 1 h) fun u11 h11 =>
    some (u11, h11)
  else
  if x1 = 6 then
    th_rd h 89 5 0 fun v13 =>
    some (v13, h)
  else
  if x1 = 7 then
    th_rd h 89 5 1 fun v15 =>
    some (v15, h)
  else
  if x1 = 8 then
    th_rd h 89 5 2 fun v17 =>
    some (v17, h)
  else
  if x1 = 9 then
    th_rd h 89 5 3 fun v19 =>
    some (v19, h)
  else
  if x1 = 10 then
    th_rd h 89 5 4 fun v21 =>
    some (v21, h)
  else
  if x1 = 11 then
    some ((h.1 1 11), h)
  else
  if x1 = 12 then
    th_bd (fX1_underWay 1 h) fun u24 h24 =>
    some (u24, h24)
  else
  if x1 = 13 then
    th_bd (fX1_allToLose 1 h) fun u26 h26 =>
    some (u26, h26)
  else
  some ((-1), h)
def tbX3_count : List (Nat × Instr × Nat) := [(0, .iload_n 1, 1), (1, .tableswitch 187 0 13 #[71, 82, 93, 104, 112, 120, 128, 135, 142, 149, 156, 163, 171, 179], 71), (72, .aload_n 0, 1), (73, .getfield 20, 3), (76, .getfield 87, 3), (79, .invokestatic 91, 3), (82, .ireturn, 1), (83, .aload_n 0, 1), (84, .getfield 12, 3), (87, .getfield 123, 3), (90, .invokestatic 91, 3), (93, .ireturn, 1), (94, .aload_n 0, 1), (95, .getfield 20, 3), (98, .invokevirtual 319, 3), (101, .invokestatic 91, 3), (104, .ireturn, 1), (105, .aload_n 0, 1), (106, .getfield 12, 3), (109, .getfield 322, 3), (112, .ireturn, 1), (113, .aload_n 0, 1), (114, .getfield 12, 3), (117, .getfield 325, 3), (120, .ireturn, 1), (121, .aload_n 0, 1), (122, .getfield 12, 3), (125, .invokevirtual 328, 3), (128, .ireturn, 1), (129, .aload_n 0, 1), (130, .getfield 42, 3), (133, .iconst 0, 1), (134, .iaload, 1), (135, .ireturn, 1), (136, .aload_n 0, 1), (137, .getfield 42, 3), (140, .iconst 1, 1), (141, .iaload, 1), (142, .ireturn, 1), (143, .aload_n 0, 1), (144, .getfield 42, 3), (147, .iconst 2, 1), (148, .iaload, 1), (149, .ireturn, 1), (150, .aload_n 0, 1), (151, .getfield 42, 3), (154, .iconst 3, 1), (155, .iaload, 1), (156, .ireturn, 1), (157, .aload_n 0, 1), (158, .getfield 42, 3), (161, .iconst 4, 1), (162, .iaload, 1), (163, .ireturn, 1), (164, .aload_n 0, 1), (165, .getfield 12, 3), (168, .getfield 331, 3), (171, .ireturn, 1), (172, .aload_n 0, 1), (173, .getfield 12, 3), (176, .invokevirtual 334, 3), (179, .ireturn, 1), (180, .aload_n 0, 1), (181, .getfield 12, 3), (184, .invokevirtual 337, 3), (187, .ireturn, 1), (188, .iconst (-1), 1), (189, .ireturn, 1)]
theorem dtX3_count : th_dec cX3_count tbX3_count = true := by decide +kernel
section
variable {p0 : Program} {l : Launch} {e : Env} {s : State} {m : MethodId} {args : Array Value} {below : List Frame} {meth : Method} {c : Code} {D : va_G} {cI cZ : ClassId} {ad : Nat → Nat} {rr : Int32} {hh : th_H}
set_option maxHeartbeats 4000000 in
set_option maxRecDepth 100000 in
theorem mX3_count (l : Launch) (x1 : Int32) (h : th_H) (rr : Int32) (hh : th_H) (hf : fX3_count x1 h = some (rr, hh)) : th_MI l LC yX3_count cX3_count 2 (some .int) 6 140 [.ref 0, .int x1] h (some (.int rr)) hh := by
  refine th_MI_of (ls := [.ref 0, .int x1]) RX3 rfl rfl rfl (Nat.le_of_ble_eq_true rfl) ?_
  intro p0 e s m args below meth c D cI cZ ad X
  unfold fX3_count at hf
  refine V_iload_n (pc := 0) X (th_da dtX3_count 0 rfl) rfl ?_
  by_cases c1 : x1 = 0
  · rw [if_pos c1] at hf
    refine V_tabIn (pc := 1) (tgt := 72) X (th_da dtX3_count 1 rfl) c1 (by decide) (by decide) rfl (by decide) ?_
    refine V_aload_n (pc := 72) X (th_da dtX3_count 2 rfl) rfl ?_
    refine V_getR (pc := 73) (j := 1) (t := 2) X (th_da dtX3_count 3 rfl) wfl_X3_20 iX3 rfl rfl (Nat.le_of_ble_eq_true rfl) rfl ?_
    refine V_getI (pc := 76) (j := 7) X (th_da dtX3_count 4 rfl) wfl_X3_87 iX0 rfl rfl (Nat.le_of_ble_eq_true rfl) rfl ?_
    obtain ⟨u2, h2, e2, hf⟩ := th_bd_some hf
    refine V_callSi (pc := 79) (As := [.int (h.1 2 7)]) X (th_da dtX3_count 5 rfl) (mJ6_bitCount_0f7a4 l _ _ _ _ e2) wcd_J6_bitCount_0f7a4 wml_X3_91 wst_J6_bitCount_0f7a4 win_J6_bitCount_0f7a4 hd_J6_bitCount_0f7a4 ⟨Nat.le_of_ble_eq_true rfl, Nat.le_of_ble_eq_true rfl⟩ (Nat.le_of_ble_eq_true rfl) rfl ?_
    exact V_iretF (pc := 82) X (th_da dtX3_count 6 rfl) hf
  · rw [if_neg c1] at hf
    by_cases c3 : x1 = 1
    · rw [if_pos c3] at hf
      refine V_tabIn (pc := 1) (tgt := 83) X (th_da dtX3_count 1 rfl) c3 (by decide) (by decide) rfl (by decide) ?_
      refine V_aload_n (pc := 83) X (th_da dtX3_count 7 rfl) rfl ?_
      refine V_getR (pc := 84) (j := 0) (t := 1) X (th_da dtX3_count 8 rfl) wfl_X3_12 iX3 rfl rfl (Nat.le_of_ble_eq_true rfl) rfl ?_
      refine V_getI (pc := 87) (j := 8) X (th_da dtX3_count 9 rfl) wfl_X3_123 iX1 rfl rfl (Nat.le_of_ble_eq_true rfl) rfl ?_
      obtain ⟨u4, h4, e4, hf⟩ := th_bd_some hf
      refine V_callSi (pc := 90) (As := [.int (h.1 1 8)]) X (th_da dtX3_count 10 rfl) (mJ6_bitCount_0f7a4 l _ _ _ _ e4) wcd_J6_bitCount_0f7a4 wml_X3_91 wst_J6_bitCount_0f7a4 win_J6_bitCount_0f7a4 hd_J6_bitCount_0f7a4 ⟨Nat.le_of_ble_eq_true rfl, Nat.le_of_ble_eq_true rfl⟩ (Nat.le_of_ble_eq_true rfl) rfl ?_
      exact V_iretF (pc := 93) X (th_da dtX3_count 11 rfl) hf
    · rw [if_neg c3] at hf
      by_cases c5 : x1 = 2
      · rw [if_pos c5] at hf
        refine V_tabIn (pc := 1) (tgt := 94) X (th_da dtX3_count 1 rfl) c5 (by decide) (by decide) rfl (by decide) ?_
        refine V_aload_n (pc := 94) X (th_da dtX3_count 12 rfl) rfl ?_
        refine V_getR (pc := 95) (j := 1) (t := 2) X (th_da dtX3_count 13 rfl) wfl_X3_20 iX3 rfl rfl (Nat.le_of_ble_eq_true rfl) rfl ?_
        obtain ⟨u6, h6, e6, hf⟩ := th_bd_some hf
        refine V_callVi (pc := 98) (q := 2) (As := []) X (th_da dtX3_count 14 rfl) (mX0_linksInUse l 2 isP_2 _ _ _ e6) wcd_X0_linksInUse wml_X3_319 wim_X0_linksInUse wse_X0_linksInUse win_X0_linksInUse hd_X0_linksInUse ⟨Nat.le_of_ble_eq_true rfl, Nat.le_of_ble_eq_true rfl⟩ (Nat.le_of_ble_eq_true rfl) rfl rfl rfl ?_
        obtain ⟨u7, h7, e7, hf⟩ := th_bd_some hf
        refine V_callSi (pc := 101) (As := [.int u6]) X (th_da dtX3_count 15 rfl) (mJ6_bitCount_0f7a4 l _ _ _ _ e7) wcd_J6_bitCount_0f7a4 wml_X3_91 wst_J6_bitCount_0f7a4 win_J6_bitCount_0f7a4 hd_J6_bitCount_0f7a4 ⟨Nat.le_of_ble_eq_true rfl, Nat.le_of_ble_eq_true rfl⟩ (Nat.le_of_ble_eq_true rfl) rfl ?_
        exact V_iretF (pc := 104) X (th_da dtX3_count 16 rfl) hf
      · rw [if_neg c5] at hf
        by_cases c8 : x1 = 3
        · rw [if_pos c8] at hf
          refine V_tabIn (pc := 1) (tgt := 105) X (th_da dtX3_count 1 rfl) c8 (by decide) (by decide) rfl (by decide) ?_
          refine V_aload_n (pc := 105) X (th_da dtX3_count 17 rfl) rfl ?_
          refine V_getR (pc := 106) (j := 0) (t := 1) X (th_da dtX3_count 18 rfl) wfl_X3_12 iX3 rfl rfl (Nat.le_of_ble_eq_true rfl) rfl ?_
          refine V_getI (pc := 109) (j := 9) X (th_da dtX3_count 19 rfl) wfl_X3_322 iX1 rfl rfl (Nat.le_of_ble_eq_true rfl) rfl ?_
          exact V_iretF (pc := 112) X (th_da dtX3_count 20 rfl) hf
        · rw [if_neg c8] at hf
          by_cases c9 : x1 = 4
          · rw [if_pos c9] at hf
            refine V_tabIn (pc := 1) (tgt := 113) X (th_da dtX3_count 1 rfl) c9 (by decide) (by decide) rfl (by decide) ?_
            refine V_aload_n (pc := 113) X (th_da dtX3_count 21 rfl) rfl ?_
            refine V_getR (pc := 114) (j := 0) (t := 1) X (th_da dtX3_count 22 rfl) wfl_X3_12 iX3 rfl rfl (Nat.le_of_ble_eq_true rfl) rfl ?_
            refine V_getI (pc := 117) (j := 10) X (th_da dtX3_count 23 rfl) wfl_X3_325 iX1 rfl rfl (Nat.le_of_ble_eq_true rfl) rfl ?_
            exact V_iretF (pc := 120) X (th_da dtX3_count 24 rfl) hf
          · rw [if_neg c9] at hf
            by_cases c10 : x1 = 5
            · rw [if_pos c10] at hf
              refine V_tabIn (pc := 1) (tgt := 121) X (th_da dtX3_count 1 rfl) c10 (by decide) (by decide) rfl (by decide) ?_
              refine V_aload_n (pc := 121) X (th_da dtX3_count 25 rfl) rfl ?_
              refine V_getR (pc := 122) (j := 0) (t := 1) X (th_da dtX3_count 26 rfl) wfl_X3_12 iX3 rfl rfl (Nat.le_of_ble_eq_true rfl) rfl ?_
              obtain ⟨u11, h11, e11, hf⟩ := th_bd_some hf
              refine V_callVi (pc := 125) (q := 1) (As := []) X (th_da dtX3_count 27 rfl) (mX1_markCount l 1 isQ_1 _ _ _ e11) wcd_X1_markCount wml_X3_328 wim_X1_markCount wse_X1_markCount win_X1_markCount hd_X1_markCount ⟨Nat.le_of_ble_eq_true rfl, Nat.le_of_ble_eq_true rfl⟩ (Nat.le_of_ble_eq_true rfl) rfl rfl rfl ?_
              exact V_iretF (pc := 128) X (th_da dtX3_count 28 rfl) hf
            · rw [if_neg c10] at hf
              by_cases c12 : x1 = 6
              · rw [if_pos c12] at hf
                refine V_tabIn (pc := 1) (tgt := 129) X (th_da dtX3_count 1 rfl) c12 (by decide) (by decide) rfl (by decide) ?_
                refine V_aload_n (pc := 129) X (th_da dtX3_count 29 rfl) rfl ?_
                refine V_getR (pc := 130) (j := 9) (t := 89) X (th_da dtX3_count 30 rfl) wfl_X3_42 iX3 rfl rfl (Nat.le_of_ble_eq_true rfl) rfl ?_
                refine V_iconst (pc := 133) (v := 0) X (th_da dtX3_count 31 rfl) (by decide) ?_
                obtain ⟨v13, e13, g13, hf⟩ := th_rd_some hf
                refine V_iald (pc := 134) X (th_da dtX3_count 32 rfl) rfl g13 e13 ?_
                exact V_iretF (pc := 135) X (th_da dtX3_count 33 rfl) hf
              · rw [if_neg c12] at hf
                by_cases c14 : x1 = 7
                · rw [if_pos c14] at hf
                  refine V_tabIn (pc := 1) (tgt := 136) X (th_da dtX3_count 1 rfl) c14 (by decide) (by decide) rfl (by decide) ?_
                  refine V_aload_n (pc := 136) X (th_da dtX3_count 34 rfl) rfl ?_
                  refine V_getR (pc := 137) (j := 9) (t := 89) X (th_da dtX3_count 35 rfl) wfl_X3_42 iX3 rfl rfl (Nat.le_of_ble_eq_true rfl) rfl ?_
                  refine V_iconst (pc := 140) (v := 1) X (th_da dtX3_count 36 rfl) (by decide) ?_
                  obtain ⟨v15, e15, g15, hf⟩ := th_rd_some hf
                  refine V_iald (pc := 141) X (th_da dtX3_count 37 rfl) rfl g15 e15 ?_
                  exact V_iretF (pc := 142) X (th_da dtX3_count 38 rfl) hf
                · rw [if_neg c14] at hf
                  by_cases c16 : x1 = 8
                  · rw [if_pos c16] at hf
                    refine V_tabIn (pc := 1) (tgt := 143) X (th_da dtX3_count 1 rfl) c16 (by decide) (by decide) rfl (by decide) ?_
                    refine V_aload_n (pc := 143) X (th_da dtX3_count 39 rfl) rfl ?_
                    refine V_getR (pc := 144) (j := 9) (t := 89) X (th_da dtX3_count 40 rfl) wfl_X3_42 iX3 rfl rfl (Nat.le_of_ble_eq_true rfl) rfl ?_
                    refine V_iconst (pc := 147) (v := 2) X (th_da dtX3_count 41 rfl) (by decide) ?_
                    obtain ⟨v17, e17, g17, hf⟩ := th_rd_some hf
                    refine V_iald (pc := 148) X (th_da dtX3_count 42 rfl) rfl g17 e17 ?_
                    exact V_iretF (pc := 149) X (th_da dtX3_count 43 rfl) hf
                  · rw [if_neg c16] at hf
                    by_cases c18 : x1 = 9
                    · rw [if_pos c18] at hf
                      refine V_tabIn (pc := 1) (tgt := 150) X (th_da dtX3_count 1 rfl) c18 (by decide) (by decide) rfl (by decide) ?_
                      refine V_aload_n (pc := 150) X (th_da dtX3_count 44 rfl) rfl ?_
                      refine V_getR (pc := 151) (j := 9) (t := 89) X (th_da dtX3_count 45 rfl) wfl_X3_42 iX3 rfl rfl (Nat.le_of_ble_eq_true rfl) rfl ?_
                      refine V_iconst (pc := 154) (v := 3) X (th_da dtX3_count 46 rfl) (by decide) ?_
                      obtain ⟨v19, e19, g19, hf⟩ := th_rd_some hf
                      refine V_iald (pc := 155) X (th_da dtX3_count 47 rfl) rfl g19 e19 ?_
                      exact V_iretF (pc := 156) X (th_da dtX3_count 48 rfl) hf
                    · rw [if_neg c18] at hf
                      by_cases c20 : x1 = 10
                      · rw [if_pos c20] at hf
                        refine V_tabIn (pc := 1) (tgt := 157) X (th_da dtX3_count 1 rfl) c20 (by decide) (by decide) rfl (by decide) ?_
                        refine V_aload_n (pc := 157) X (th_da dtX3_count 49 rfl) rfl ?_
                        refine V_getR (pc := 158) (j := 9) (t := 89) X (th_da dtX3_count 50 rfl) wfl_X3_42 iX3 rfl rfl (Nat.le_of_ble_eq_true rfl) rfl ?_
                        refine V_iconst (pc := 161) (v := 4) X (th_da dtX3_count 51 rfl) (by decide) ?_
                        obtain ⟨v21, e21, g21, hf⟩ := th_rd_some hf
                        refine V_iald (pc := 162) X (th_da dtX3_count 52 rfl) rfl g21 e21 ?_
                        exact V_iretF (pc := 163) X (th_da dtX3_count 53 rfl) hf
                      · rw [if_neg c20] at hf
                        by_cases c22 : x1 = 11
                        · rw [if_pos c22] at hf
                          refine V_tabIn (pc := 1) (tgt := 164) X (th_da dtX3_count 1 rfl) c22 (by decide) (by decide) rfl (by decide) ?_
                          refine V_aload_n (pc := 164) X (th_da dtX3_count 54 rfl) rfl ?_
                          refine V_getR (pc := 165) (j := 0) (t := 1) X (th_da dtX3_count 55 rfl) wfl_X3_12 iX3 rfl rfl (Nat.le_of_ble_eq_true rfl) rfl ?_
                          refine V_getI (pc := 168) (j := 11) X (th_da dtX3_count 56 rfl) wfl_X3_331 iX1 rfl rfl (Nat.le_of_ble_eq_true rfl) rfl ?_
                          exact V_iretF (pc := 171) X (th_da dtX3_count 57 rfl) hf
                        · rw [if_neg c22] at hf
                          by_cases c23 : x1 = 12
                          · rw [if_pos c23] at hf
                            refine V_tabIn (pc := 1) (tgt := 172) X (th_da dtX3_count 1 rfl) c23 (by decide) (by decide) rfl (by decide) ?_
                            refine V_aload_n (pc := 172) X (th_da dtX3_count 58 rfl) rfl ?_
                            refine V_getR (pc := 173) (j := 0) (t := 1) X (th_da dtX3_count 59 rfl) wfl_X3_12 iX3 rfl rfl (Nat.le_of_ble_eq_true rfl) rfl ?_
                            obtain ⟨u24, h24, e24, hf⟩ := th_bd_some hf
                            refine V_callVi (pc := 176) (q := 1) (As := []) X (th_da dtX3_count 60 rfl) (mX1_underWay l 1 isQ_1 _ _ _ e24) wcd_X1_underWay wml_X3_334 wim_X1_underWay wse_X1_underWay win_X1_underWay hd_X1_underWay ⟨Nat.le_of_ble_eq_true rfl, Nat.le_of_ble_eq_true rfl⟩ (Nat.le_of_ble_eq_true rfl) rfl rfl rfl ?_
                            exact V_iretF (pc := 179) X (th_da dtX3_count 61 rfl) hf
                          · rw [if_neg c23] at hf
                            by_cases c25 : x1 = 13
                            · rw [if_pos c25] at hf
                              refine V_tabIn (pc := 1) (tgt := 180) X (th_da dtX3_count 1 rfl) c25 (by decide) (by decide) rfl (by decide) ?_
                              refine V_aload_n (pc := 180) X (th_da dtX3_count 62 rfl) rfl ?_
                              refine V_getR (pc := 181) (j := 0) (t := 1) X (th_da dtX3_count 63 rfl) wfl_X3_12 iX3 rfl rfl (Nat.le_of_ble_eq_true rfl) rfl ?_
                              obtain ⟨u26, h26, e26, hf⟩ := th_bd_some hf
                              refine V_callVi (pc := 184) (q := 1) (As := []) X (th_da dtX3_count 64 rfl) (mX1_allToLose l 1 isQ_1 _ _ _ e26) wcd_X1_allToLose wml_X3_337 wim_X1_allToLose wse_X1_allToLose win_X1_allToLose hd_X1_allToLose ⟨Nat.le_of_ble_eq_true rfl, Nat.le_of_ble_eq_true rfl⟩ (Nat.le_of_ble_eq_true rfl) rfl rfl rfl ?_
                              exact V_iretF (pc := 187) X (th_da dtX3_count 65 rfl) hf
                            · rw [if_neg c25] at hf
                              have n1 := lv_neT c1 (show (0 : Int32).toInt = 0 from rfl)
                              have n3 := lv_neT c3 (show (1 : Int32).toInt = 1 from rfl)
                              have n5 := lv_neT c5 (show (2 : Int32).toInt = 2 from rfl)
                              have n8 := lv_neT c8 (show (3 : Int32).toInt = 3 from rfl)
                              have n9 := lv_neT c9 (show (4 : Int32).toInt = 4 from rfl)
                              have n10 := lv_neT c10 (show (5 : Int32).toInt = 5 from rfl)
                              have n12 := lv_neT c12 (show (6 : Int32).toInt = 6 from rfl)
                              have n14 := lv_neT c14 (show (7 : Int32).toInt = 7 from rfl)
                              have n16 := lv_neT c16 (show (8 : Int32).toInt = 8 from rfl)
                              have n18 := lv_neT c18 (show (9 : Int32).toInt = 9 from rfl)
                              have n20 := lv_neT c20 (show (10 : Int32).toInt = 10 from rfl)
                              have n22 := lv_neT c22 (show (11 : Int32).toInt = 11 from rfl)
                              have n23 := lv_neT c23 (show (12 : Int32).toInt = 12 from rfl)
                              have n25 := lv_neT c25 (show (13 : Int32).toInt = 13 from rfl)
                              refine V_tabOut (pc := 1) (tgt := 188) X (th_da dtX3_count 1 rfl) (by omega) (by decide) ?_
                              refine V_iconst (pc := 188) (v := (-1)) X (th_da dtX3_count 66 rfl) (by decide) ?_
                              exact V_iretF (pc := 189) X (th_da dtX3_count 67 rfl) hf
end
