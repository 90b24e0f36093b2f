def fX2_nextSurface_c69 (w : Nat) (p : Nat) : Nat → Int32 → Int32 → Int32 → th_H → Option (Int32 × th_H)
  | 0, _, _, _, _ => none
  | n + 1, y1, y2, y3, h =>
    if (y3 < 20 : Prop) then
      if (((y1 >>> (y3 &&& 31)) &&& 1) = 0 : Prop) then
        fX2_nextSurface_c69 w p n y1 y2 (y3 + 1) h
      else
        th_bd (fX0_ownOf p y3 h) fun u3 h3 =>
        fX2_nextSurface_c69 w p n y1 (th_mn y2 u3) (y3 + 1) h3
    else
      some (y2, h)
def fX2_nextSurface_c5 (w : Nat) (p : Nat) : Nat → Int32 → Int32 → Int32 → th_H → Option (Int32 × th_H)
  | 0, _, _, _, _ => none
  | n + 1, y1, y2, y3, h =>
    if (y3 < 10 : Prop) then
      th_wr h (w + 7) 10 y3 (-1) fun h2 =>
      th_rd h2 (p + 2) 10 y3 fun v3 =>
      if ((v3 &&& y1) = 0 : Prop) then
        fX2_nextSurface_c5 w p n y1 y2 (y3 + 1) h2
      else
        th_bd (fX0_greatestLevel p (w + 1) y3 h2) fun u5 h5 =>
        th_wr h5 (w + 7) 10 y3 u5 fun h6 =>
        th_rd h6 (w + 7) 10 y3 fun v7 =>
        fX2_nextSurface_c5 w p n y1 (th_mn y2 v7) (y3 + 1) h6
    else
      fX2_nextSurface_c69 w p 1000 y1 y2 0 h
def fX2_nextSurface (w : Nat) (p : Nat) (x1 : Int32) (h : th_H) : Option (Int32 × th_H) :=
  fX2_nextSurface_c5 w p 1000 x1 1000000 0 h
def tbX2_nextSurface : List (Nat × Instr × Nat) := [(0, .ldc 46, 2), (2, .istore_n 2, 1), (3, .iconst 0, 1), (4, .istore_n 3, 1), (5, .iload_n 3, 1), (6, .bipush 10, 2), (8, .if_icmp .ge 59, 3), (11, .aload_n 0, 1), (12, .getfield 30, 3), (15, .iload_n 3, 1), (16, .iconst (-1), 1), (17, .iastore, 1), (18, .aload_n 0, 1), (19, .getfield 37, 3), (22, .getfield 74, 3), (25, .iload_n 3, 1), (26, .iaload, 1), (27, .iload_n 1, 1), (28, .iand, 1), (29, .ifCond .eq 32, 3), (32, .aload_n 0, 1), (33, .getfield 30, 3), (36, .iload_n 3, 1), (37, .aload_n 0, 1), (38, .getfield 37, 3), (41, .iload_n 3, 1), (42, .aload_n 0, 1), (43, .getfield 9, 3), (46, .invokevirtual 77, 3), (49, .iastore, 1), (50, .iload_n 2, 1), (51, .aload_n 0, 1), (52, .getfield 30, 3), (55, .iload_n 3, 1), (56, .iaload, 1), (57, .invokestatic 81, 3), (60, .istore_n 2, 1), (61, .iinc 3 1, 3), (64, .goto (-59), 3), (67, .iconst 0, 1), (68, .istore_n 3, 1), (69, .iload_n 3, 1), (70, .bipush 20, 2), (72, .if_icmp .ge 30, 3), (75, .iload_n 1, 1), (76, .iload_n 3, 1), (77, .ishr, 1), (78, .iconst 1, 1), (79, .iand, 1), (80, .ifCond .eq 16, 3), (83, .iload_n 2, 1), (84, .aload_n 0, 1), (85, .getfield 37, 3), (88, .iload_n 3, 1), (89, .invokevirtual 87, 3), (92, .invokestatic 81, 3), (95, .istore_n 2, 1), (96, .iinc 3 1, 3), (99, .goto (-30), 3), (102, .iload_n 2, 1), (103, .ireturn, 1)]
theorem dtX2_nextSurface : th_dec cX2_nextSurface tbX2_nextSurface = true := by decide +kernel
section
variable {p0 : Program} {l : Launch} {e : Env} {s : State} {m : MethodId} {args : Array Value} {below : List Frame} {meth : Method} {c : Code} {D : va_G} {cI cZ : ClassId} {ad : Nat → Nat} {rr : Int32} {hh : th_H}
set_option maxHeartbeats 4000000 in
set_option maxRecDepth 100000 in
theorem tX2_nextSurface_c69 (X : th_X p0 s m args meth c D cI cZ ad LC 4 RX2 cX2_nextSurface (some .int)) (w : Nat) (p : Nat) (hw : isW w p) : ∀ (n : Nat) (y1 : Int32) (y2 : Int32) (y3 : Int32) (h : th_H), fX2_nextSurface_c69 w p n y1 y2 y3 h = some (rr, hh) → th_V p0 l e { frames := 3, cells := 0, slots := 0, locals := 73 } s m args below meth c D cI cZ ad LC 4 (some (.int rr)) hh 69 [.ref w, .int y1, .int y2, .int y3] [] h := by
  intro n
  induction n with
  | zero => intro y1 y2 y3 h hf; cases hf
  | succ n ih =>
    intro y1 y2 y3 h hf
    rw [fX2_nextSurface_c69] at hf
    refine V_iload_n (pc := 69) X (th_da dtX2_nextSurface 41 rfl) rfl ?_
    refine V_bipush (pc := 70) (v := 20) X (th_da dtX2_nextSurface 42 rfl) (by decide) ?_
    refine V_icmp_ge (pc := 72) (tgt := 102) X (th_da dtX2_nextSurface 43 rfl) (by decide) (fun c1 => ?_) (fun c1 => ?_)
    · rw [if_pos c1] at hf
      refine V_iload_n (pc := 75) X (th_da dtX2_nextSurface 44 rfl) rfl ?_
      refine V_iload_n (pc := 76) X (th_da dtX2_nextSurface 45 rfl) rfl ?_
      refine V_ishr (pc := 77) X (th_da dtX2_nextSurface 46 rfl) ?_
      refine V_iconst (pc := 78) (v := 1) X (th_da dtX2_nextSurface 47 rfl) (by decide) ?_
      refine V_iand (pc := 79) X (th_da dtX2_nextSurface 48 rfl) ?_
      refine V_if_eq (pc := 80) (tgt := 96) X (th_da dtX2_nextSurface 49 rfl) (by decide) (fun c2 => ?_) (fun c2 => ?_)
      · rw [if_pos c2] at hf
        refine V_iinc (pc := 96) (v := y3 + 1) (ls2 := [.ref w, .int y1, .int y2, .int (y3 + 1)]) X (th_da dtX2_nextSurface 57 rfl) rfl rfl (Nat.le_of_ble_eq_true rfl) rfl rfl ?_
        refine V_goto (pc := 99) (tgt := 69) X (th_da dtX2_nextSurface 58 rfl) (by decide) ?_
        exact ih _ _ _ _ hf
      · rw [if_neg c2] at hf
        refine V_iload_n (pc := 83) X (th_da dtX2_nextSurface 50 rfl) rfl ?_
        refine V_aload_n (pc := 84) X (th_da dtX2_nextSurface 51 rfl) rfl ?_
        refine V_getR (pc := 85) (j := 0) (t := p) X (th_da dtX2_nextSurface 52 rfl) wfl_X2_37 iX2 rfl (W_0 hw) (Nat.le_of_ble_eq_true rfl) rfl ?_
        refine V_iload_n (pc := 88) X (th_da dtX2_nextSurface 53 rfl) rfl ?_
        obtain ⟨u3, h3, e3, hf⟩ := th_bd_some hf
        refine V_callVi (pc := 89) (q := p) (As := [.int y3]) X (th_da dtX2_nextSurface 54 rfl) (mX0_ownOf l p (W_p hw) _ _ _ _ e3) wcd_X0_ownOf wml_X2_87 wim_X0_ownOf wse_X0_ownOf win_X0_ownOf hd_X0_ownOf ⟨Nat.le_of_ble_eq_true rfl, Nat.le_of_ble_eq_true rfl⟩ (Nat.le_of_ble_eq_true rfl) rfl (P_0 (W_p hw)) rfl ?_
        refine V_mmin (pc := 92) X (th_da dtX2_nextSurface 55 rfl) wml_X2_81 wst_J9_min_7cf53 win_J9_min_7cf53 wcd_J9_min_7cf53 (Nat.le_of_ble_eq_true rfl) (Nat.le_of_ble_eq_true rfl) ?_
        refine V_istore_n (pc := 95) (ls2 := [.ref w, .int y1, .int (th_mn y2 u3), .int y3]) X (th_da dtX2_nextSurface 56 rfl) (Nat.le_of_ble_eq_true rfl) rfl rfl ?_
        refine V_iinc (pc := 96) (v := y3 + 1) (ls2 := [.ref w, .int y1, .int (th_mn y2 u3), .int (y3 + 1)]) X (th_da dtX2_nextSurface 57 rfl) rfl rfl (Nat.le_of_ble_eq_true rfl) rfl rfl ?_
        refine V_goto (pc := 99) (tgt := 69) X (th_da dtX2_nextSurface 58 rfl) (by decide) ?_
        exact ih _ _ _ _ hf
    · rw [if_neg c1] at hf
      refine V_iload_n (pc := 102) X (th_da dtX2_nextSurface 59 rfl) rfl ?_
      exact V_iretF (pc := 103) X (th_da dtX2_nextSurface 60 rfl) hf
set_option maxHeartbeats 4000000 in
set_option maxRecDepth 100000 in
theorem tX2_nextSurface_c5 (X : th_X p0 s m args meth c D cI cZ ad LC 4 RX2 cX2_nextSurface (some .int)) (w : Nat) (p : Nat) (hw : isW w p) : ∀ (n : Nat) (y1 : Int32) (y2 : Int32) (y3 : Int32) (h : th_H), fX2_nextSurface_c5 w p n y1 y2 y3 h = some (rr, hh) → th_V p0 l e { frames := 3, cells := 0, slots := 0, locals := 73 } s m args below meth c D cI cZ ad LC 4 (some (.int rr)) hh 5 [.ref w, .int y1, .int y2, .int y3] [] h := by
  intro n
  induction n with
  | zero => intro y1 y2 y3 h hf; cases hf
  | succ n ih =>
    intro y1 y2 y3 h hf
    rw [fX2_nextSurface_c5] at hf
    refine V_iload_n (pc := 5) X (th_da dtX2_nextSurface 4 rfl) rfl ?_
    refine V_bipush (pc := 6) (v := 10) X (th_da dtX2_nextSurface 5 rfl) (by decide) ?_
    refine V_icmp_ge (pc := 8) (tgt := 67) X (th_da dtX2_nextSurface 6 rfl) (by decide) (fun c1 => ?_) (fun c1 => ?_)
    · rw [if_pos c1] at hf
      refine V_aload_n (pc := 11) X (th_da dtX2_nextSurface 7 rfl) rfl ?_
      refine V_getR (pc := 12) (j := 7) (t := (w + 7)) X (th_da dtX2_nextSurface 8 rfl) wfl_X2_30 iX2 rfl (W_0 hw) (Nat.le_of_ble_eq_true rfl) rfl ?_
      refine V_iload_n (pc := 15) X (th_da dtX2_nextSurface 9 rfl) rfl ?_
      refine V_iconst (pc := 16) (v := (-1)) X (th_da dtX2_nextSurface 10 rfl) (by decide) ?_
      obtain ⟨h2, e2, g2, hf⟩ := th_wr_some hf
      refine V_iast (pc := 17) X (th_da dtX2_nextSurface 11 rfl) (W_7 hw) g2 e2 ?_
      refine V_aload_n (pc := 18) X (th_da dtX2_nextSurface 12 rfl) rfl ?_
      refine V_getR (pc := 19) (j := 0) (t := p) X (th_da dtX2_nextSurface 13 rfl) wfl_X2_37 iX2 rfl (W_0 hw) (Nat.le_of_ble_eq_true rfl) rfl ?_
      refine V_getR (pc := 22) (j := 1) (t := (p + 2)) X (th_da dtX2_nextSurface 14 rfl) wfl_X2_74 iX0 rfl (P_0 (W_p hw)) (Nat.le_of_ble_eq_true rfl) rfl ?_
      refine V_iload_n (pc := 25) X (th_da dtX2_nextSurface 15 rfl) rfl ?_
      obtain ⟨v3, e3, g3, hf⟩ := th_rd_some hf
      refine V_iald (pc := 26) X (th_da dtX2_nextSurface 16 rfl) (P_2 (W_p hw)) g3 e3 ?_
      refine V_iload_n (pc := 27) X (th_da dtX2_nextSurface 17 rfl) rfl ?_
      refine V_iand (pc := 28) X (th_da dtX2_nextSurface 18 rfl) ?_
      refine V_if_eq (pc := 29) (tgt := 61) X (th_da dtX2_nextSurface 19 rfl) (by decide) (fun c4 => ?_) (fun c4 => ?_)
      · rw [if_pos c4] at hf
        refine V_iinc (pc := 61) (v := y3 + 1) (ls2 := [.ref w, .int y1, .int y2, .int (y3 + 1)]) X (th_da dtX2_nextSurface 37 rfl) rfl rfl (Nat.le_of_ble_eq_true rfl) rfl rfl ?_
        refine V_goto (pc := 64) (tgt := 5) X (th_da dtX2_nextSurface 38 rfl) (by decide) ?_
        exact ih _ _ _ _ hf
      · rw [if_neg c4] at hf
        refine V_aload_n (pc := 32) X (th_da dtX2_nextSurface 20 rfl) rfl ?_
        refine V_getR (pc := 33) (j := 7) (t := (w + 7)) X (th_da dtX2_nextSurface 21 rfl) wfl_X2_30 iX2 rfl (W_0 hw) (Nat.le_of_ble_eq_true rfl) rfl ?_
        refine V_iload_n (pc := 36) X (th_da dtX2_nextSurface 22 rfl) rfl ?_
        refine V_aload_n (pc := 37) X (th_da dtX2_nextSurface 23 rfl) rfl ?_
        refine V_getR (pc := 38) (j := 0) (t := p) X (th_da dtX2_nextSurface 24 rfl) wfl_X2_37 iX2 rfl (W_0 hw) (Nat.le_of_ble_eq_true rfl) rfl ?_
        refine V_iload_n (pc := 41) X (th_da dtX2_nextSurface 25 rfl) rfl ?_
        refine V_aload_n (pc := 42) X (th_da dtX2_nextSurface 26 rfl) rfl ?_
        refine V_getR (pc := 43) (j := 1) (t := (w + 1)) X (th_da dtX2_nextSurface 27 rfl) wfl_X2_9 iX2 rfl (W_0 hw) (Nat.le_of_ble_eq_true rfl) rfl ?_
        obtain ⟨u5, h5, e5, hf⟩ := th_bd_some hf
        refine V_callVi (pc := 46) (q := p) (As := [.int y3, .ref (w + 1)]) X (th_da dtX2_nextSurface 28 rfl) (mX0_greatestLevel l p (w + 1) (W_p hw) (W_1 hw) _ _ _ _ e5) wcd_X0_greatestLevel wml_X2_77 wim_X0_greatestLevel wse_X0_greatestLevel win_X0_greatestLevel hd_X0_greatestLevel ⟨Nat.le_of_ble_eq_true rfl, Nat.le_of_ble_eq_true rfl⟩ (Nat.le_of_ble_eq_true rfl) rfl (P_0 (W_p hw)) rfl ?_
        obtain ⟨h6, e6, g6, hf⟩ := th_wr_some hf
        refine V_iast (pc := 49) X (th_da dtX2_nextSurface 29 rfl) (W_7 hw) g6 e6 ?_
        refine V_iload_n (pc := 50) X (th_da dtX2_nextSurface 30 rfl) rfl ?_
        refine V_aload_n (pc := 51) X (th_da dtX2_nextSurface 31 rfl) rfl ?_
        refine V_getR (pc := 52) (j := 7) (t := (w + 7)) X (th_da dtX2_nextSurface 32 rfl) wfl_X2_30 iX2 rfl (W_0 hw) (Nat.le_of_ble_eq_true rfl) rfl ?_
        refine V_iload_n (pc := 55) X (th_da dtX2_nextSurface 33 rfl) rfl ?_
        obtain ⟨v7, e7, g7, hf⟩ := th_rd_some hf
        refine V_iald (pc := 56) X (th_da dtX2_nextSurface 34 rfl) (W_7 hw) g7 e7 ?_
        refine V_mmin (pc := 57) X (th_da dtX2_nextSurface 35 rfl) wml_X2_81 wst_J9_min_7cf53 win_J9_min_7cf53 wcd_J9_min_7cf53 (Nat.le_of_ble_eq_true rfl) (Nat.le_of_ble_eq_true rfl) ?_
        refine V_istore_n (pc := 60) (ls2 := [.ref w, .int y1, .int (th_mn y2 v7), .int y3]) X (th_da dtX2_nextSurface 36 rfl) (Nat.le_of_ble_eq_true rfl) rfl rfl ?_
        refine V_iinc (pc := 61) (v := y3 + 1) (ls2 := [.ref w, .int y1, .int (th_mn y2 v7), .int (y3 + 1)]) X (th_da dtX2_nextSurface 37 rfl) rfl rfl (Nat.le_of_ble_eq_true rfl) rfl rfl ?_
        refine V_goto (pc := 64) (tgt := 5) X (th_da dtX2_nextSurface 38 rfl) (by decide) ?_
        exact ih _ _ _ _ hf
    · rw [if_neg c1] at hf
      refine V_iconst (pc := 67) (v := 0) X (th_da dtX2_nextSurface 39 rfl) (by decide) ?_
      refine V_istore_n (pc := 68) (ls2 := [.ref w, .int y1, .int y2, .int 0]) X (th_da dtX2_nextSurface 40 rfl) (Nat.le_of_ble_eq_true rfl) rfl rfl ?_
      exact tX2_nextSurface_c69 X _ _ hw _ _ _ _ _ hf
set_option maxHeartbeats 4000000 in
set_option maxRecDepth 100000 in
theorem mX2_nextSurface (l : Launch) (w : Nat) (p : Nat) (hw : isW w p) (x1 : Int32) (h : th_H) (rr : Int32) (hh : th_H) (hf : fX2_nextSurface w p x1 h = some (rr, hh)) : th_MI l LC yX2_nextSurface cX2_nextSurface 4 (some .int) 3 73 [.ref w, .int x1] h (some (.int rr)) hh := by
  refine th_MI_of (ls := [.ref w, .int x1, .null, .null]) RX2 rfl rfl rfl (Nat.le_of_ble_eq_true rfl) ?_
  intro p0 e s m args below meth c D cI cZ ad X
  unfold fX2_nextSurface at hf
  refine V_ldc (pc := 0) (v := 1000000) X (th_da dtX2_nextSurface 0 rfl) wco_X2_46 ?_
  refine V_istore_n (pc := 2) (ls2 := [.ref w, .int x1, .int 1000000, .null]) X (th_da dtX2_nextSurface 1 rfl) (Nat.le_of_ble_eq_true rfl) rfl rfl ?_
  refine V_iconst (pc := 3) (v := 0) X (th_da dtX2_nextSurface 2 rfl) (by decide) ?_
  refine V_istore_n (pc := 4) (ls2 := [.ref w, .int x1, .int 1000000, .int 0]) X (th_da dtX2_nextSurface 3 rfl) (Nat.le_of_ble_eq_true rfl) rfl rfl ?_
  exact tX2_nextSurface_c5 X _ _ hw _ _ _ _ _ hf
end
def fX2_linksAt_c4 (w : Nat) (p : Nat) : Nat → Int32 → Int32 → Int32 → th_H → Option (Int32 × th_H)
  | 0, _, _, _, _ => none
  | n + 1, y1, y2, y3, h =>
    if (y3 < 10 : Prop) then
      th_rd h (w + 7) 10 y3 fun v2 =>
      if (v2 = y1 : Prop) then
        fX2_linksAt_c4 w p n y1 (y2 ||| ((1 : Int32) <<< (y3 &&& 31))) (y3 + 1) h
      else
        fX2_linksAt_c4 w p n y1 (y2 ||| 0) (y3 + 1) h
    else
      some (y2, h)
def fX2_linksAt (w : Nat) (p : Nat) (x1 : Int32) (h : th_H) : Option (Int32 × th_H) :=
  fX2_linksAt_c4 w p 1000 x1 0 0 h
def tbX2_linksAt : List (Nat × Instr × Nat) := [(0, .iconst 0, 1), (1, .istore_n 2, 1), (2, .iconst 0, 1), (3, .istore_n 3, 1), (4, .iload_n 3, 1), (5, .bipush 10, 2), (7, .if_icmp .ge 29, 3), (10, .iload_n 2, 1), (11, .aload_n 0, 1), (12, .getfield 30, 3), (15, .iload_n 3, 1), (16, .iaload, 1), (17, .iload_n 1, 1), (18, .if_icmp .ne 9, 3), (21, .iconst 1, 1), (22, .iload_n 3, 1), (23, .ishl, 1), (24, .goto 4, 3), (27, .iconst 0, 1), (28, .ior, 1), (29, .istore_n 2, 1), (30, .iinc 3 1, 3), (33, .goto (-29), 3), (36, .iload_n 2, 1), (37, .ireturn, 1)]
theorem dtX2_linksAt : th_dec cX2_linksAt tbX2_linksAt = true := by decide +kernel
section
variable {p0 : Program} {l : Launch} {e : Env} {s : State} {m : MethodId} {args : Array Value} {below : List Frame} {meth : Method} {c : Code} {D : va_G} {cI cZ : ClassId} {ad : Nat → Nat} {rr : Int32} {hh : th_H}
set_option maxHeartbeats 4000000 in
set_option maxRecDepth 100000 in
theorem tX2_linksAt_c4 (X : th_X p0 s m args meth c D cI cZ ad LC 4 RX2 cX2_linksAt (some .int)) (w : Nat) (p : Nat) (hw : isW w p) : ∀ (n : Nat) (y1 : Int32) (y2 : Int32) (y3 : Int32) (h : th_H), fX2_linksAt_c4 w p n y1 y2 y3 h = some (rr, hh) → th_V p0 l e { frames := 0, cells := 0, slots := 0, locals := 0 } s m args below meth c D cI cZ ad LC 4 (some (.int rr)) hh 4 [.ref w, .int y1, .int y2, .int y3] [] h := by
  intro n
  induction n with
  | zero => intro y1 y2 y3 h hf; cases hf
  | succ n ih =>
    intro y1 y2 y3 h hf
    rw [fX2_linksAt_c4] at hf
    refine V_iload_n (pc := 4) X (th_da dtX2_linksAt 4 rfl) rfl ?_
    refine V_bipush (pc := 5) (v := 10) X (th_da dtX2_linksAt 5 rfl) (by decide) ?_
    refine V_icmp_ge (pc := 7) (tgt := 36) X (th_da dtX2_linksAt 6 rfl) (by decide) (fun c1 => ?_) (fun c1 => ?_)
    · rw [if_pos c1] at hf
      refine V_iload_n (pc := 10) X (th_da dtX2_linksAt 7 rfl) rfl ?_
      refine V_aload_n (pc := 11) X (th_da dtX2_linksAt 8 rfl) rfl ?_
      refine V_getR (pc := 12) (j := 7) (t := (w + 7)) X (th_da dtX2_linksAt 9 rfl) wfl_X2_30 iX2 rfl (W_0 hw) (Nat.le_of_ble_eq_true rfl) rfl ?_
      refine V_iload_n (pc := 15) X (th_da dtX2_linksAt 10 rfl) rfl ?_
      obtain ⟨v2, e2, g2, hf⟩ := th_rd_some hf
      refine V_iald (pc := 16) X (th_da dtX2_linksAt 11 rfl) (W_7 hw) g2 e2 ?_
      refine V_iload_n (pc := 17) X (th_da dtX2_linksAt 12 rfl) rfl ?_
      refine V_icmp_ne (pc := 18) (tgt := 27) X (th_da dtX2_linksAt 13 rfl) (by decide) (fun c3 => ?_) (fun c3 => ?_)
      · rw [if_pos c3] at hf
        refine V_iconst (pc := 21) (v := 1) X (th_da dtX2_linksAt 14 rfl) (by decide) ?_
        refine V_iload_n (pc := 22) X (th_da dtX2_linksAt 15 rfl) rfl ?_
        refine V_ishl (pc := 23) X (th_da dtX2_linksAt 16 rfl) ?_
        refine V_goto (pc := 24) (tgt := 28) X (th_da dtX2_linksAt 17 rfl) (by decide) ?_
        refine V_ior (pc := 28) X (th_da dtX2_linksAt 19 rfl) ?_
        refine V_istore_n (pc := 29) (ls2 := [.ref w, .int y1, .int (y2 ||| ((1 : Int32) <<< (y3 &&& 31))), .int y3]) X (th_da dtX2_linksAt 20 rfl) (Nat.le_of_ble_eq_true rfl) rfl rfl ?_
        refine V_iinc (pc := 30) (v := y3 + 1) (ls2 := [.ref w, .int y1, .int (y2 ||| ((1 : Int32) <<< (y3 &&& 31))), .int (y3 + 1)]) X (th_da dtX2_linksAt 21 rfl) rfl rfl (Nat.le_of_ble_eq_true rfl) rfl rfl ?_
        refine V_goto (pc := 33) (tgt := 4) X (th_da dtX2_linksAt 22 rfl) (by decide) ?_
        exact ih _ _ _ _ hf
      · rw [if_neg c3] at hf
        refine V_iconst (pc := 27) (v := 0) X (th_da dtX2_linksAt 18 rfl) (by decide) ?_
        refine V_ior (pc := 28) X (th_da dtX2_linksAt 19 rfl) ?_
        refine V_istore_n (pc := 29) (ls2 := [.ref w, .int y1, .int (y2 ||| 0), .int y3]) X (th_da dtX2_linksAt 20 rfl) (Nat.le_of_ble_eq_true rfl) rfl rfl ?_
        refine V_iinc (pc := 30) (v := y3 + 1) (ls2 := [.ref w, .int y1, .int (y2 ||| 0), .int (y3 + 1)]) X (th_da dtX2_linksAt 21 rfl) rfl rfl (Nat.le_of_ble_eq_true rfl) rfl rfl ?_
        refine V_goto (pc := 33) (tgt := 4) X (th_da dtX2_linksAt 22 rfl) (by decide) ?_
        exact ih _ _ _ _ hf
    · rw [if_neg c1] at hf
      refine V_iload_n (pc := 36) X (th_da dtX2_linksAt 23 rfl) rfl ?_
      exact V_iretF (pc := 37) X (th_da dtX2_linksAt 24 rfl) hf
set_option maxHeartbeats 4000000 in
set_option maxRecDepth 100000 in
theorem mX2_linksAt (l : Launch) (w : Nat) (p : Nat) (hw : isW w p) (x1 : Int32) (h : th_H) (rr : Int32) (hh : th_H) (hf : fX2_linksAt w p x1 h = some (rr, hh)) : th_MI l LC yX2_linksAt cX2_linksAt 4 (some .int) 0 0 [.ref w, .int x1] h (some (.int rr)) hh := by
  refine th_MI_of (ls := [.ref w, .int x1, .null, .null]) RX2 rfl rfl rfl (Nat.le_of_ble_eq_true rfl) ?_
  intro p0 e s m args below meth c D cI cZ ad X
  unfold fX2_linksAt at hf
  refine V_iconst (pc := 0) (v := 0) X (th_da dtX2_linksAt 0 rfl) (by decide) ?_
  refine V_istore_n (pc := 1) (ls2 := [.ref w, .int x1, .int 0, .null]) X (th_da dtX2_linksAt 1 rfl) (Nat.le_of_ble_eq_true rfl) rfl rfl ?_
  refine V_iconst (pc := 2) (v := 0) X (th_da dtX2_linksAt 2 rfl) (by decide) ?_
  refine V_istore_n (pc := 3) (ls2 := [.ref w, .int x1, .int 0, .int 0]) X (th_da dtX2_linksAt 3 rfl) (Nat.le_of_ble_eq_true rfl) rfl rfl ?_
  exact tX2_linksAt_c4 X _ _ hw _ _ _ _ _ hf
end
def fX2_fixedBy_c6 (w : Nat) (p : Nat) : Nat → Int32 → Int32 → Int32 → Int32 → Int32 → th_H → Option (Int32 × th_H)
  | 0, _, _, _, _, _, _ => none
  | n + 1, y1, y2, y3, y4, y5, h =>
    if (y5 < 20 : Prop) then
      if (((y1 >>> (y5 &&& 31)) &&& 1) = 0 : Prop) then
        fX2_fixedBy_c6 w p n y1 y2 y3 y4 (y5 + 1) h
      else
        th_bd (fX0_ownOf p y5 h) fun u3 h3 =>
        if (u3 = y2 : Prop) then
          fX2_fixedBy_c6 w p n y1 y2 y3 (y4 ||| ((1 : Int32) <<< (y5 &&& 31))) (y5 + 1) h3
        else
          th_rd h3 (p + 4) 20 y5 fun v5 =>
          if ((v5 &&& y3) = 0 : Prop) then
            fX2_fixedBy_c6 w p n y1 y2 y3 y4 (y5 + 1) h3
          else
            fX2_fixedBy_c6 w p n y1 y2 y3 (y4 ||| ((1 : Int32) <<< (y5 &&& 31))) (y5 + 1) h3
    else
      some (y4, h)
def fX2_fixedBy (w : Nat) (p : Nat) (x1 : Int32) (x2 : Int32) (x3 : Int32) (h : th_H) : Option (Int32 × th_H) :=
  fX2_fixedBy_c6 w p 1000 x1 x2 x3 0 0 h
def tbX2_fixedBy : List (Nat × Instr × Nat) := [(0, .iconst 0, 1), (1, .istore 4, 2), (3, .iconst 0, 1), (4, .istore 5, 2), (6, .iload 5, 2), (8, .bipush 20, 2), (10, .if_icmp .ge 55, 3), (13, .iload_n 1, 1), (14, .iload 5, 2), (16, .ishr, 1), (17, .iconst 1, 1), (18, .iand, 1), (19, .ifCond .eq 40, 3), (22, .aload_n 0, 1), (23, .getfield 37, 3), (26, .iload 5, 2), (28, .invokevirtual 87, 3), (31, .iload_n 2, 1), (32, .if_icmp .eq 18, 3), (35, .aload_n 0, 1), (36, .getfield 37, 3), (39, .getfield 90, 3), (42, .iload 5, 2), (44, .iaload, 1), (45, .iload_n 3, 1), (46, .iand, 1), (47, .ifCond .eq 12, 3), (50, .iload 4, 2), (52, .iconst 1, 1), (53, .iload 5, 2), (55, .ishl, 1), (56, .ior, 1), (57, .istore 4, 2), (59, .iinc 5 1, 3), (62, .goto (-56), 3), (65, .iload 4, 2), (67, .ireturn, 1)]
theorem dtX2_fixedBy : th_dec cX2_fixedBy tbX2_fixedBy = true := by decide +kernel
section
variable {p0 : Program} {l : Launch} {e : Env} {s : State} {m : MethodId} {args : Array Value} {below : List Frame} {meth : Method} {c : Code} {D : va_G} {cI cZ : ClassId} {ad : Nat → Nat} {rr : Int32} {hh : th_H}
set_option maxHeartbeats 4000000 in
set_option maxRecDepth 100000 in
theorem tX2_fixedBy_c6 (X : th_X p0 s m args meth c D cI cZ ad LC 6 RX2 cX2_fixedBy (some .int)) (w : Nat) (p : Nat) (hw : isW w p) : ∀ (n : Nat) (y1 : Int32) (y2 : Int32) (y3 : Int32) (y4 : Int32) (y5 : Int32) (h : th_H), fX2_fixedBy_c6 w p n y1 y2 y3 y4 y5 h = some (rr, hh) → th_V p0 l e { frames := 2, cells := 0, slots := 0, locals := 43 } s m args below meth c D cI cZ ad LC 6 (some (.int rr)) hh 6 [.ref w, .int y1, .int y2, .int y3, .int y4, .int y5] [] h := by
  intro n
  induction n with
  | zero => intro y1 y2 y3 y4 y5 h hf; cases hf
  | succ n ih =>
    intro y1 y2 y3 y4 y5 h hf
    rw [fX2_fixedBy_c6] at hf
    refine V_iload (pc := 6) X (th_da dtX2_fixedBy 4 rfl) rfl ?_
    refine V_bipush (pc := 8) (v := 20) X (th_da dtX2_fixedBy 5 rfl) (by decide) ?_
    refine V_icmp_ge (pc := 10) (tgt := 65) X (th_da dtX2_fixedBy 6 rfl) (by decide) (fun c1 => ?_) (fun c1 => ?_)
    · rw [if_pos c1] at hf
      refine V_iload_n (pc := 13) X (th_da dtX2_fixedBy 7 rfl) rfl ?_
      refine V_iload (pc := 14) X (th_da dtX2_fixedBy 8 rfl) rfl ?_
      refine V_ishr (pc := 16) X (th_da dtX2_fixedBy 9 rfl) ?_
      refine V_iconst (pc := 17) (v := 1) X (th_da dtX2_fixedBy 10 rfl) (by decide) ?_
      refine V_iand (pc := 18) X (th_da dtX2_fixedBy 11 rfl) ?_
      refine V_if_eq (pc := 19) (tgt := 59) X (th_da dtX2_fixedBy 12 rfl) (by decide) (fun c2 => ?_) (fun c2 => ?_)
      · rw [if_pos c2] at hf
        refine V_iinc (pc := 59) (v := y5 + 1) (ls2 := [.ref w, .int y1, .int y2, .int y3, .int y4, .int (y5 + 1)]) X (th_da dtX2_fixedBy 33 rfl) rfl rfl (Nat.le_of_ble_eq_true rfl) rfl rfl ?_
        refine V_goto (pc := 62) (tgt := 6) X (th_da dtX2_fixedBy 34 rfl) (by decide) ?_
        exact ih _ _ _ _ _ _ hf
      · rw [if_neg c2] at hf
        refine V_aload_n (pc := 22) X (th_da dtX2_fixedBy 13 rfl) rfl ?_
        refine V_getR (pc := 23) (j := 0) (t := p) X (th_da dtX2_fixedBy 14 rfl) wfl_X2_37 iX2 rfl (W_0 hw) (Nat.le_of_ble_eq_true rfl) rfl ?_
        refine V_iload (pc := 26) X (th_da dtX2_fixedBy 15 rfl) rfl ?_
        obtain ⟨u3, h3, e3, hf⟩ := th_bd_some hf
        refine V_callVi (pc := 28) (q := p) (As := [.int y5]) X (th_da dtX2_fixedBy 16 rfl) (mX0_ownOf l p (W_p hw) _ _ _ _ e3) wcd_X0_ownOf wml_X2_87 wim_X0_ownOf wse_X0_ownOf win_X0_ownOf hd_X0_ownOf ⟨Nat.le_of_ble_eq_true rfl, Nat.le_of_ble_eq_true rfl⟩ (Nat.le_of_ble_eq_true rfl) rfl (P_0 (W_p hw)) rfl ?_
        refine V_iload_n (pc := 31) X (th_da dtX2_fixedBy 17 rfl) rfl ?_
        refine V_icmp_eq (pc := 32) (tgt := 50) X (th_da dtX2_fixedBy 18 rfl) (by decide) (fun c4 => ?_) (fun c4 => ?_)
        · rw [if_pos c4] at hf
          refine V_iload (pc := 50) X (th_da dtX2_fixedBy 27 rfl) rfl ?_
          refine V_iconst (pc := 52) (v := 1) X (th_da dtX2_fixedBy 28 rfl) (by decide) ?_
          refine V_iload (pc := 53) X (th_da dtX2_fixedBy 29 rfl) rfl ?_
          refine V_ishl (pc := 55) X (th_da dtX2_fixedBy 30 rfl) ?_
          refine V_ior (pc := 56) X (th_da dtX2_fixedBy 31 rfl) ?_
          refine V_istore (pc := 57) (ls2 := [.ref w, .int y1, .int y2, .int y3, .int (y4 ||| ((1 : Int32) <<< (y5 &&& 31))), .int y5]) X (th_da dtX2_fixedBy 32 rfl) (Nat.le_of_ble_eq_true rfl) rfl rfl ?_
          refine V_iinc (pc := 59) (v := y5 + 1) (ls2 := [.ref w, .int y1, .int y2, .int y3, .int (y4 ||| ((1 : Int32) <<< (y5 &&& 31))), .int (y5 + 1)]) X (th_da dtX2_fixedBy 33 rfl) rfl rfl (Nat.le_of_ble_eq_true rfl) rfl rfl ?_
          refine V_goto (pc := 62) (tgt := 6) X (th_da dtX2_fixedBy 34 rfl) (by decide) ?_
          exact ih _ _ _ _ _ _ hf
        · rw [if_neg c4] at hf
          refine V_aload_n (pc := 35) X (th_da dtX2_fixedBy 19 rfl) rfl ?_
          refine V_getR (pc := 36) (j := 0) (t := p) X (th_da dtX2_fixedBy 20 rfl) wfl_X2_37 iX2 rfl (W_0 hw) (Nat.le_of_ble_eq_true rfl) rfl ?_
          refine V_getR (pc := 39) (j := 3) (t := (p + 4)) X (th_da dtX2_fixedBy 21 rfl) wfl_X2_90 iX0 rfl (P_0 (W_p hw)) (Nat.le_of_ble_eq_true rfl) rfl ?_
          refine V_iload (pc := 42) X (th_da dtX2_fixedBy 22 rfl) rfl ?_
          obtain ⟨v5, e5, g5, hf⟩ := th_rd_some hf
          refine V_iald (pc := 44) X (th_da dtX2_fixedBy 23 rfl) (P_4 (W_p hw)) g5 e5 ?_
          refine V_iload_n (pc := 45) X (th_da dtX2_fixedBy 24 rfl) rfl ?_
          refine V_iand (pc := 46) X (th_da dtX2_fixedBy 25 rfl) ?_
          refine V_if_eq (pc := 47) (tgt := 59) X (th_da dtX2_fixedBy 26 rfl) (by decide) (fun c6 => ?_) (fun c6 => ?_)
          · rw [if_pos c6] at hf
            refine V_iinc (pc := 59) (v := y5 + 1) (ls2 := [.ref w, .int y1, .int y2, .int y3, .int y4, .int (y5 + 1)]) X (th_da dtX2_fixedBy 33 rfl) rfl rfl (Nat.le_of_ble_eq_true rfl) rfl rfl ?_
            refine V_goto (pc := 62) (tgt := 6) X (th_da dtX2_fixedBy 34 rfl) (by decide) ?_
            exact ih _ _ _ _ _ _ hf
          · rw [if_neg c6] at hf
            refine V_iload (pc := 50) X (th_da dtX2_fixedBy 27 rfl) rfl ?_
            refine V_iconst (pc := 52) (v := 1) X (th_da dtX2_fixedBy 28 rfl) (by decide) ?_
            refine V_iload (pc := 53) X (th_da dtX2_fixedBy 29 rfl) rfl ?_
            refine V_ishl (pc := 55) X (th_da dtX2_fixedBy 30 rfl) ?_
            refine V_ior (pc := 56) X (th_da dtX2_fixedBy 31 rfl) ?_
            refine V_istore (pc := 57) (ls2 := [.ref w, .int y1, .int y2, .int y3, .int (y4 ||| ((1 : Int32) <<< (y5 &&& 31))), .int y5]) X (th_da dtX2_fixedBy 32 rfl) (Nat.le_of_ble_eq_true rfl) rfl rfl ?_
            refine V_iinc (pc := 59) (v := y5 + 1) (ls2 := [.ref w, .int y1, .int y2, .int y3, .int (y4 ||| ((1 : Int32) <<< (y5 &&& 31))), .int (y5 + 1)]) X (th_da dtX2_fixedBy 33 rfl) rfl rfl (Nat.le_of_ble_eq_true rfl) rfl rfl ?_
            refine V_goto (pc := 62) (tgt := 6) X (th_da dtX2_fixedBy 34 rfl) (by decide) ?_
            exact ih _ _ _ _ _ _ hf
    · rw [if_neg c1] at hf
      refine V_iload (pc := 65) X (th_da dtX2_fixedBy 35 rfl) rfl ?_
      exact V_iretF (pc := 67) X (th_da dtX2_fixedBy 36 rfl) hf
set_option maxHeartbeats 4000000 in
set_option maxRecDepth 100000 in
theorem mX2_fixedBy (l : Launch) (w : Nat) (p : Nat) (hw : isW w p) (x1 : Int32) (x2 : Int32) (x3 : Int32) (h : th_H) (rr : Int32) (hh : th_H) (hf : fX2_fixedBy w p x1 x2 x3 h = some (rr, hh)) : th_MI l LC yX2_fixedBy cX2_fixedBy 6 (some .int) 2 43 [.ref w, .int x1, .int x2, .int x3] h (some (.int rr)) hh := by
  refine th_MI_of (ls := [.ref w, .int x1, .int x2, .int x3, .null, .null]) RX2 rfl rfl rfl (Nat.le_of_ble_eq_true rfl) ?_
  intro p0 e s m args below meth c D cI cZ ad X
  unfold fX2_fixedBy at hf
  refine V_iconst (pc := 0) (v := 0) X (th_da dtX2_fixedBy 0 rfl) (by decide) ?_
  refine V_istore (pc := 1) (ls2 := [.ref w, .int x1, .int x2, .int x3, .int 0, .null]) X (th_da dtX2_fixedBy 1 rfl) (Nat.le_of_ble_eq_true rfl) rfl rfl ?_
  refine V_iconst (pc := 3) (v := 0) X (th_da dtX2_fixedBy 2 rfl) (by decide) ?_
  refine V_istore (pc := 4) (ls2 := [.ref w, .int x1, .int x2, .int x3, .int 0, .int 0]) X (th_da dtX2_fixedBy 3 rfl) (Nat.le_of_ble_eq_true rfl) rfl rfl ?_
  exact tX2_fixedBy_c6 X _ _ hw _ _ _ _ _ _ _ hf
end
def fX2_fix_c2 (w : Nat) (p : Nat) : Nat → Int32 → Int32 → Int32 → th_H → Option (Unit × th_H)
  | 0, _, _, _, _ => none
  | n + 1, y1, y2, y3, h =>
    if (y3 < 20 : Prop) then
      if (((y1 >>> (y3 &&& 31)) &&& 1) = 0 : Prop) then
        fX2_fix_c2 w p n y1 y2 (y3 + 1) h
      else
        th_rd h (w + 4) 20 y2 fun v3 =>
        th_wr h (w + 1) 20 y3 v3 fun h4 =>
        th_wr h4 (w + 3) 20 y3 y2 fun h5 =>
        th_rd h5 (p + 4) 20 y3 fun v6 =>
        th_rd h5 (w + 6) 20 y2 fun v7 =>
        if ((v6 &&& v7) = 0 : Prop) then
          th_wr h5 (w + 2) 20 y3 10 fun h9 =>
          fX2_fix_c2 w p n y1 y2 (y3 + 1) h9
        else
          th_bd (fJ6_numberOfTrailingZeros_0f7a4 (v6 &&& v7) h5) fun u10 h10 =>
          th_wr h10 (w + 2) 20 y3 u10 fun h11 =>
          fX2_fix_c2 w p n y1 y2 (y3 + 1) h11
    else
      some ((), h)
def fX2_fix (w : Nat) (p : Nat) (x1 : Int32) (x2 : Int32) (h : th_H) : Option (Unit × th_H) :=
  fX2_fix_c2 w p 1000 x1 x2 0 h
def tbX2_fix : List (Nat × Instr × Nat) := [(0, .iconst 0, 1), (1, .istore_n 3, 1), (2, .iload_n 3, 1), (3, .bipush 20, 2), (5, .if_icmp .ge 75, 3), (8, .iload_n 1, 1), (9, .iload_n 3, 1), (10, .ishr, 1), (11, .iconst 1, 1), (12, .iand, 1), (13, .ifCond .eq 61, 3), (16, .aload_n 0, 1), (17, .getfield 9, 3), (20, .iload_n 3, 1), (21, .aload_n 0, 1), (22, .getfield 21, 3), (25, .iload_n 2, 1), (26, .iaload, 1), (27, .iastore, 1), (28, .aload_n 0, 1), (29, .getfield 18, 3), (32, .iload_n 3, 1), (33, .iload_n 2, 1), (34, .iastore, 1), (35, .aload_n 0, 1), (36, .getfield 37, 3), (39, .getfield 90, 3), (42, .iload_n 3, 1), (43, .iaload, 1), (44, .aload_n 0, 1), (45, .getfield 27, 3), (48, .iload_n 2, 1), (49, .iaload, 1), (50, .iand, 1), (51, .istore 4, 2), (53, .aload_n 0, 1), (54, .getfield 15, 3), (57, .iload_n 3, 1), (58, .iload 4, 2), (60, .ifCond .ne 8, 3), (63, .bipush 10, 2), (65, .goto 8, 3), (68, .iload 4, 2), (70, .invokestatic 93, 3), (73, .iastore, 1), (74, .iinc 3 1, 3), (77, .goto (-75), 3), (80, .return_, 1)]
theorem dtX2_fix : th_dec cX2_fix tbX2_fix = true := by decide +kernel
section
variable {p0 : Program} {l : Launch} {e : Env} {s : State} {m : MethodId} {args : Array Value} {below : List Frame} {meth : Method} {c : Code} {D : va_G} {cI cZ : ClassId} {ad : Nat → Nat} {rr : Unit} {hh : th_H}
set_option maxHeartbeats 4000000 in
set_option maxRecDepth 100000 in
theorem tX2_fix_c2 (X : th_X p0 s m args meth c D cI cZ ad LC 5 RX2 cX2_fix none) (w : Nat) (p : Nat) (hw : isW w p) : ∀ (n : Nat) (y1 : Int32) (y2 : Int32) (y3 : Int32) (h : th_H), fX2_fix_c2 w p n y1 y2 y3 h = some (rr, hh) → th_V p0 l e { frames := 1, cells := 0, slots := 0, locals := 21 } s m args below meth c D cI cZ ad LC 5 none hh 2 [.ref w, .int y1, .int y2, .int y3, .null] [] h := by
  intro n
  induction n with
  | zero => intro y1 y2 y3 h hf; cases hf
  | succ n ih =>
    intro y1 y2 y3 h hf
    rw [fX2_fix_c2] at hf
    refine V_iload_n (pc := 2) X (th_da dtX2_fix 2 rfl) rfl ?_
    refine V_bipush (pc := 3) (v := 20) X (th_da dtX2_fix 3 rfl) (by decide) ?_
    refine V_icmp_ge (pc := 5) (tgt := 80) X (th_da dtX2_fix 4 rfl) (by decide) (fun c1 => ?_) (fun c1 => ?_)
    · rw [if_pos c1] at hf
      refine V_iload_n (pc := 8) X (th_da dtX2_fix 5 rfl) rfl ?_
      refine V_iload_n (pc := 9) X (th_da dtX2_fix 6 rfl) rfl ?_
      refine V_ishr (pc := 10) X (th_da dtX2_fix 7 rfl) ?_
      refine V_iconst (pc := 11) (v := 1) X (th_da dtX2_fix 8 rfl) (by decide) ?_
      refine V_iand (pc := 12) X (th_da dtX2_fix 9 rfl) ?_
      refine V_if_eq (pc := 13) (tgt := 74) X (th_da dtX2_fix 10 rfl) (by decide) (fun c2 => ?_) (fun c2 => ?_)
      · rw [if_pos c2] at hf
        refine V_iinc (pc := 74) (v := y3 + 1) (ls2 := [.ref w, .int y1, .int y2, .int (y3 + 1), .null]) X (th_da dtX2_fix 45 rfl) rfl rfl (Nat.le_of_ble_eq_true rfl) rfl rfl ?_
        refine V_goto (pc := 77) (tgt := 2) X (th_da dtX2_fix 46 rfl) (by decide) ?_
        exact ih _ _ _ _ hf
      · rw [if_neg c2] at hf
        refine V_aload_n (pc := 16) X (th_da dtX2_fix 11 rfl) rfl ?_
        refine V_getR (pc := 17) (j := 1) (t := (w + 1)) X (th_da dtX2_fix 12 rfl) wfl_X2_9 iX2 rfl (W_0 hw) (Nat.le_of_ble_eq_true rfl) rfl ?_
        refine V_iload_n (pc := 20) X (th_da dtX2_fix 13 rfl) rfl ?_
        refine V_aload_n (pc := 21) X (th_da dtX2_fix 14 rfl) rfl ?_
        refine V_getR (pc := 22) (j := 4) (t := (w + 4)) X (th_da dtX2_fix 15 rfl) wfl_X2_21 iX2 rfl (W_0 hw) (Nat.le_of_ble_eq_true rfl) rfl ?_
        refine V_iload_n (pc := 25) X (th_da dtX2_fix 16 rfl) rfl ?_
        obtain ⟨v3, e3, g3, hf⟩ := th_rd_some hf
        refine V_iald (pc := 26) X (th_da dtX2_fix 17 rfl) (W_4 hw) g3 e3 ?_
        obtain ⟨h4, e4, g4, hf⟩ := th_wr_some hf
        refine V_iast (pc := 27) X (th_da dtX2_fix 18 rfl) (W_1 hw) g4 e4 ?_
        refine V_aload_n (pc := 28) X (th_da dtX2_fix 19 rfl) rfl ?_
        refine V_getR (pc := 29) (j := 3) (t := (w + 3)) X (th_da dtX2_fix 20 rfl) wfl_X2_18 iX2 rfl (W_0 hw) (Nat.le_of_ble_eq_true rfl) rfl ?_
        refine V_iload_n (pc := 32) X (th_da dtX2_fix 21 rfl) rfl ?_
        refine V_iload_n (pc := 33) X (th_da dtX2_fix 22 rfl) rfl ?_
        obtain ⟨h5, e5, g5, hf⟩ := th_wr_some hf
        refine V_iast (pc := 34) X (th_da dtX2_fix 23 rfl) (W_3 hw) g5 e5 ?_
        refine V_aload_n (pc := 35) X (th_da dtX2_fix 24 rfl) rfl ?_
        refine V_getR (pc := 36) (j := 0) (t := p) X (th_da dtX2_fix 25 rfl) wfl_X2_37 iX2 rfl (W_0 hw) (Nat.le_of_ble_eq_true rfl) rfl ?_
        refine V_getR (pc := 39) (j := 3) (t := (p + 4)) X (th_da dtX2_fix 26 rfl) wfl_X2_90 iX0 rfl (P_0 (W_p hw)) (Nat.le_of_ble_eq_true rfl) rfl ?_
        refine V_iload_n (pc := 42) X (th_da dtX2_fix 27 rfl) rfl ?_
        obtain ⟨v6, e6, g6, hf⟩ := th_rd_some hf
        refine V_iald (pc := 43) X (th_da dtX2_fix 28 rfl) (P_4 (W_p hw)) g6 e6 ?_
        refine V_aload_n (pc := 44) X (th_da dtX2_fix 29 rfl) rfl ?_
        refine V_getR (pc := 45) (j := 6) (t := (w + 6)) X (th_da dtX2_fix 30 rfl) wfl_X2_27 iX2 rfl (W_0 hw) (Nat.le_of_ble_eq_true rfl) rfl ?_
        refine V_iload_n (pc := 48) X (th_da dtX2_fix 31 rfl) rfl ?_
        obtain ⟨v7, e7, g7, hf⟩ := th_rd_some hf
        refine V_iald (pc := 49) X (th_da dtX2_fix 32 rfl) (W_6 hw) g7 e7 ?_
        refine V_iand (pc := 50) X (th_da dtX2_fix 33 rfl) ?_
        refine V_istore (pc := 51) (ls2 := [.ref w, .int y1, .int y2, .int y3, .int (v6 &&& v7)]) X (th_da dtX2_fix 34 rfl) (Nat.le_of_ble_eq_true rfl) rfl rfl ?_
        refine V_aload_n (pc := 53) X (th_da dtX2_fix 35 rfl) rfl ?_
        refine V_getR (pc := 54) (j := 2) (t := (w + 2)) X (th_da dtX2_fix 36 rfl) wfl_X2_15 iX2 rfl (W_0 hw) (Nat.le_of_ble_eq_true rfl) rfl ?_
        refine V_iload_n (pc := 57) X (th_da dtX2_fix 37 rfl) rfl ?_
        refine V_iload (pc := 58) X (th_da dtX2_fix 38 rfl) rfl ?_
        refine V_if_ne (pc := 60) (tgt := 68) X (th_da dtX2_fix 39 rfl) (by decide) (fun c8 => ?_) (fun c8 => ?_)
        · rw [if_pos c8] at hf
          refine V_bipush (pc := 63) (v := 10) X (th_da dtX2_fix 40 rfl) (by decide) ?_
          refine V_goto (pc := 65) (tgt := 73) X (th_da dtX2_fix 41 rfl) (by decide) ?_
          obtain ⟨h9, e9, g9, hf⟩ := th_wr_some hf
          refine V_iast (pc := 73) X (th_da dtX2_fix 44 rfl) (W_2 hw) g9 e9 ?_
          refine V_iinc (pc := 74) (v := y3 + 1) (ls2 := [.ref w, .int y1, .int y2, .int (y3 + 1), .int (v6 &&& v7)]) X (th_da dtX2_fix 45 rfl) rfl rfl (Nat.le_of_ble_eq_true rfl) rfl rfl ?_
          refine V_goto (pc := 77) (tgt := 2) X (th_da dtX2_fix 46 rfl) (by decide) ?_
          refine V_mask [true, true, true, true, false] (ls2 := [.ref w, .int y1, .int y2, .int (y3 + 1), .null]) rfl ?_
          exact ih _ _ _ _ hf
        · rw [if_neg c8] at hf
          refine V_iload (pc := 68) X (th_da dtX2_fix 42 rfl) rfl ?_
          obtain ⟨u10, h10, e10, hf⟩ := th_bd_some hf
          refine V_callSi (pc := 70) (As := [.int (v6 &&& v7)]) X (th_da dtX2_fix 43 rfl) (mJ6_numberOfTrailingZeros_0f7a4 l _ _ _ _ e10) wcd_J6_numberOfTrailingZeros_0f7a4 wml_X2_93 wst_J6_numberOfTrailingZeros_0f7a4 win_J6_numberOfTrailingZeros_0f7a4 hd_J6_numberOfTrailingZeros_0f7a4 ⟨Nat.le_of_ble_eq_true rfl, Nat.le_of_ble_eq_true rfl⟩ (Nat.le_of_ble_eq_true rfl) rfl ?_
          obtain ⟨h11, e11, g11, hf⟩ := th_wr_some hf
          refine V_iast (pc := 73) X (th_da dtX2_fix 44 rfl) (W_2 hw) g11 e11 ?_
          refine V_iinc (pc := 74) (v := y3 + 1) (ls2 := [.ref w, .int y1, .int y2, .int (y3 + 1), .int (v6 &&& v7)]) X (th_da dtX2_fix 45 rfl) rfl rfl (Nat.le_of_ble_eq_true rfl) rfl rfl ?_
          refine V_goto (pc := 77) (tgt := 2) X (th_da dtX2_fix 46 rfl) (by decide) ?_
          refine V_mask [true, true, true, true, false] (ls2 := [.ref w, .int y1, .int y2, .int (y3 + 1), .null]) rfl ?_
          exact ih _ _ _ _ hf
    · rw [if_neg c1] at hf
      exact V_vretF (pc := 80) X (th_da dtX2_fix 47 rfl) hf
set_option maxHeartbeats 4000000 in
set_option maxRecDepth 100000 in
theorem mX2_fix (l : Launch) (w : Nat) (p : Nat) (hw : isW w p) (x1 : Int32) (x2 : Int32) (h : th_H) (rr : Unit) (hh : th_H) (hf : fX2_fix w p x1 x2 h = some (rr, hh)) : th_MI l LC yX2_fix cX2_fix 5 none 1 21 [.ref w, .int x1, .int x2] h none hh := by
  refine th_MI_of (ls := [.ref w, .int x1, .int x2, .null, .null]) RX2 rfl rfl rfl (Nat.le_of_ble_eq_true rfl) ?_
  intro p0 e s m args below meth c D cI cZ ad X
  unfold fX2_fix at hf
  refine V_iconst (pc := 0) (v := 0) X (th_da dtX2_fix 0 rfl) (by decide) ?_
  refine V_istore_n (pc := 1) (ls2 := [.ref w, .int x1, .int x2, .int 0, .null]) X (th_da dtX2_fix 1 rfl) (Nat.le_of_ble_eq_true rfl) rfl rfl ?_
  exact tX2_fix_c2 X _ _ hw _ _ _ _ _ hf
end
def fX2_rise_c50 (w : Nat) (p : Nat) : Nat → Int32 → Int32 → th_H → Option (Unit × th_H)
  | 0, _, _, _ => none
  | n + 1, y1, y2, h =>
    if (y2 < 20 : Prop) then
      if (y1 = 0 : Prop) then
        some ((), h)
      else
        th_bd (fX2_nextSurface w p y1 h) fun u3 h3 =>
        th_bd (fX2_linksAt w p u3 h3) fun u4 h4 =>
        th_bd (fX2_fixedBy w p y1 u3 u4 h4) fun u5 h5 =>
        th_wr h5 (w + 4) 20 y2 u3 fun h6 =>
        th_wr h6 (w + 6) 20 y2 u4 fun h7 =>
        th_wr h7 (w + 5) 20 y2 u5 fun h8 =>
        th_bd (fX2_fix w p u5 y2 h8) fun _u9 h9 =>
        th_st (th_up h9 w 8 (y2 + 1)) fun h10 =>
        fX2_rise_c50 w p n (y1 &&& (u5 ^^^ (-1))) (y2 + 1) h10
    else
      some ((), h)
def fX2_rise (w : Nat) (p : Nat) (h : th_H) : Option (Unit × th_H) :=
  if ((h.1 w 9) = (h.1 p 8) : Prop) then
    some ((), h)
  else
    th_st (th_up h w 9 (h.1 p 8)) fun h2 =>
    th_bd (fJ7_fill_53178 (w + 1) 20 1000000 h2) fun _u3 h3 =>
    th_st (th_up h3 w 8 0) fun h4 =>
    fX2_rise_c50 w p 1000 (h4.1 p 7) 0 h4
def tbX2_rise : List (Nat × Instr × Nat) := [(0, .aload_n 0, 1), (1, .getfield 33, 3), (4, .aload_n 0, 1), (5, .getfield 37, 3), (8, .getfield 41, 3), (11, .if_icmp .ne 4, 3), (14, .return_, 1), (15, .aload_n 0, 1), (16, .aload_n 0, 1), (17, .getfield 37, 3), (20, .getfield 41, 3), (23, .putfield 33, 3), (26, .aload_n 0, 1), (27, .getfield 9, 3), (30, .ldc 46, 2), (32, .invokestatic 47, 3), (35, .aload_n 0, 1), (36, .iconst 0, 1), (37, .putfield 53, 3), (40, .aload_n 0, 1), (41, .getfield 37, 3), (44, .getfield 56, 3), (47, .istore_n 1, 1), (48, .iconst 0, 1), (49, .istore_n 2, 1), (50, .iload_n 2, 1), (51, .bipush 20, 2), (53, .if_icmp .ge 80, 3), (56, .iload_n 1, 1), (57, .ifCond .eq 76, 3), (60, .aload_n 0, 1), (61, .iload_n 1, 1), (62, .invokevirtual 59, 3), (65, .istore_n 3, 1), (66, .aload_n 0, 1), (67, .iload_n 3, 1), (68, .invokevirtual 63, 3), (71, .istore 4, 2), (73, .aload_n 0, 1), (74, .iload_n 1, 1), (75, .iload_n 3, 1), (76, .iload 4, 2), (78, .invokevirtual 66, 3), (81, .istore 5, 2), (83, .aload_n 0, 1), (84, .getfield 21, 3), (87, .iload_n 2, 1), (88, .iload_n 3, 1), (89, .iastore, 1), (90, .aload_n 0, 1), (91, .getfield 27, 3), (94, .iload_n 2, 1), (95, .iload 4, 2), (97, .iastore, 1), (98, .aload_n 0, 1), (99, .getfield 24, 3), (102, .iload_n 2, 1), (103, .iload 5, 2), (105, .iastore, 1), (106, .aload_n 0, 1), (107, .iload 5, 2), (109, .iload_n 2, 1), (110, .invokevirtual 70, 3), (113, .iload_n 1, 1), (114, .iload 5, 2), (116, .iconst (-1), 1), (117, .ixor, 1), (118, .iand, 1), (119, .istore_n 1, 1), (120, .aload_n 0, 1), (121, .iload_n 2, 1), (122, .iconst 1, 1), (123, .iadd, 1), (124, .putfield 53, 3), (127, .iinc 2 1, 3), (130, .goto (-80), 3), (133, .return_, 1)]
theorem dtX2_rise : th_dec cX2_rise tbX2_rise = true := by decide +kernel
section
variable {p0 : Program} {l : Launch} {e : Env} {s : State} {m : MethodId} {args : Array Value} {below : List Frame} {meth : Method} {c : Code} {D : va_G} {cI cZ : ClassId} {ad : Nat → Nat} {rr : Unit} {hh : th_H}
set_option maxHeartbeats 4000000 in
set_option maxRecDepth 100000 in
theorem tX2_rise_c50 (X : th_X p0 s m args meth c D cI cZ ad LC 6 RX2 cX2_rise none) (w : Nat) (p : Nat) (hw : isW w p) : ∀ (n : Nat) (y1 : Int32) (y2 : Int32) (h : th_H), fX2_rise_c50 w p n y1 y2 h = some (rr, hh) → th_V p0 l e { frames := 4, cells := 0, slots := 0, locals := 96 } s m args below meth c D cI cZ ad LC 6 none hh 50 [.ref w, .int y1, .int y2, .null, .null, .null] [] h := by
  intro n
  induction n with
  | zero => intro y1 y2 h hf; cases hf
  | succ n ih =>
    intro y1 y2 h hf
    rw [fX2_rise_c50] at hf
    refine V_iload_n (pc := 50) X (th_da dtX2_rise 25 rfl) rfl ?_
    refine V_bipush (pc := 51) (v := 20) X (th_da dtX2_rise 26 rfl) (by decide) ?_
    refine V_icmp_ge (pc := 53) (tgt := 133) X (th_da dtX2_rise 27 rfl) (by decide) (fun c1 => ?_) (fun c1 => ?_)
    · rw [if_pos c1] at hf
      refine V_iload_n (pc := 56) X (th_da dtX2_rise 28 rfl) rfl ?_
      refine V_if_eq (pc := 57) (tgt := 133) X (th_da dtX2_rise 29 rfl) (by decide) (fun c2 => ?_) (fun c2 => ?_)
      · rw [if_pos c2] at hf
        exact V_vretF (pc := 133) X (th_da dtX2_rise 76 rfl) hf
      · rw [if_neg c2] at hf
        refine V_aload_n (pc := 60) X (th_da dtX2_rise 30 rfl) rfl ?_
        refine V_iload_n (pc := 61) X (th_da dtX2_rise 31 rfl) rfl ?_
        obtain ⟨u3, h3, e3, hf⟩ := th_bd_some hf
        refine V_callVi (pc := 62) (q := w) (As := [.int y1]) X (th_da dtX2_rise 32 rfl) (mX2_nextSurface l w p hw _ _ _ _ e3) wcd_X2_nextSurface wml_X2_59 wim_X2_nextSurface wse_X2_nextSurface win_X2_nextSurface hd_X2_nextSurface ⟨Nat.le_of_ble_eq_true rfl, Nat.le_of_ble_eq_true rfl⟩ (Nat.le_of_ble_eq_true rfl) rfl (W_0 hw) rfl ?_
        refine V_istore_n (pc := 65) (ls2 := [.ref w, .int y1, .int y2, .int u3, .null, .null]) X (th_da dtX2_rise 33 rfl) (Nat.le_of_ble_eq_true rfl) rfl rfl ?_
        refine V_aload_n (pc := 66) X (th_da dtX2_rise 34 rfl) rfl ?_
        refine V_iload_n (pc := 67) X (th_da dtX2_rise 35 rfl) rfl ?_
        obtain ⟨u4, h4, e4, hf⟩ := th_bd_some hf
        refine V_callVi (pc := 68) (q := w) (As := [.int u3]) X (th_da dtX2_rise 36 rfl) (mX2_linksAt l w p hw _ _ _ _ e4) wcd_X2_linksAt wml_X2_63 wim_X2_linksAt wse_X2_linksAt win_X2_linksAt hd_X2_linksAt ⟨Nat.le_of_ble_eq_true rfl, Nat.le_of_ble_eq_true rfl⟩ (Nat.le_of_ble_eq_true rfl) rfl (W_0 hw) rfl ?_
        refine V_istore (pc := 71) (ls2 := [.ref w, .int y1, .int y2, .int u3, .int u4, .null]) X (th_da dtX2_rise 37 rfl) (Nat.le_of_ble_eq_true rfl) rfl rfl ?_
        refine V_aload_n (pc := 73) X (th_da dtX2_rise 38 rfl) rfl ?_
        refine V_iload_n (pc := 74) X (th_da dtX2_rise 39 rfl) rfl ?_
        refine V_iload_n (pc := 75) X (th_da dtX2_rise 40 rfl) rfl ?_
        refine V_iload (pc := 76) X (th_da dtX2_rise 41 rfl) rfl ?_
        obtain ⟨u5, h5, e5, hf⟩ := th_bd_some hf
        refine V_callVi (pc := 78) (q := w) (As := [.int y1, .int u3, .int u4]) X (th_da dtX2_rise 42 rfl) (mX2_fixedBy l w p hw _ _ _ _ _ _ e5) wcd_X2_fixedBy wml_X2_66 wim_X2_fixedBy wse_X2_fixedBy win_X2_fixedBy hd_X2_fixedBy ⟨Nat.le_of_ble_eq_true rfl, Nat.le_of_ble_eq_true rfl⟩ (Nat.le_of_ble_eq_true rfl) rfl (W_0 hw) rfl ?_
        refine V_istore (pc := 81) (ls2 := [.ref w, .int y1, .int y2, .int u3, .int u4, .int u5]) X (th_da dtX2_rise 43 rfl) (Nat.le_of_ble_eq_true rfl) rfl rfl ?_
        refine V_aload_n (pc := 83) X (th_da dtX2_rise 44 rfl) rfl ?_
        refine V_getR (pc := 84) (j := 4) (t := (w + 4)) X (th_da dtX2_rise 45 rfl) wfl_X2_21 iX2 rfl (W_0 hw) (Nat.le_of_ble_eq_true rfl) rfl ?_
        refine V_iload_n (pc := 87) X (th_da dtX2_rise 46 rfl) rfl ?_
        refine V_iload_n (pc := 88) X (th_da dtX2_rise 47 rfl) rfl ?_
        obtain ⟨h6, e6, g6, hf⟩ := th_wr_some hf
        refine V_iast (pc := 89) X (th_da dtX2_rise 48 rfl) (W_4 hw) g6 e6 ?_
        refine V_aload_n (pc := 90) X (th_da dtX2_rise 49 rfl) rfl ?_
        refine V_getR (pc := 91) (j := 6) (t := (w + 6)) X (th_da dtX2_rise 50 rfl) wfl_X2_27 iX2 rfl (W_0 hw) (Nat.le_of_ble_eq_true rfl) rfl ?_
        refine V_iload_n (pc := 94) X (th_da dtX2_rise 51 rfl) rfl ?_
        refine V_iload (pc := 95) X (th_da dtX2_rise 52 rfl) rfl ?_
        obtain ⟨h7, e7, g7, hf⟩ := th_wr_some hf
        refine V_iast (pc := 97) X (th_da dtX2_rise 53 rfl) (W_6 hw) g7 e7 ?_
        refine V_aload_n (pc := 98) X (th_da dtX2_rise 54 rfl) rfl ?_
        refine V_getR (pc := 99) (j := 5) (t := (w + 5)) X (th_da dtX2_rise 55 rfl) wfl_X2_24 iX2 rfl (W_0 hw) (Nat.le_of_ble_eq_true rfl) rfl ?_
        refine V_iload_n (pc := 102) X (th_da dtX2_rise 56 rfl) rfl ?_
        refine V_iload (pc := 103) X (th_da dtX2_rise 57 rfl) rfl ?_
        obtain ⟨h8, e8, g8, hf⟩ := th_wr_some hf
        refine V_iast (pc := 105) X (th_da dtX2_rise 58 rfl) (W_5 hw) g8 e8 ?_
        refine V_aload_n (pc := 106) X (th_da dtX2_rise 59 rfl) rfl ?_
        refine V_iload (pc := 107) X (th_da dtX2_rise 60 rfl) rfl ?_
        refine V_iload_n (pc := 109) X (th_da dtX2_rise 61 rfl) rfl ?_
        obtain ⟨u9, h9, e9, hf⟩ := th_bd_some hf
        refine V_callVv (pc := 110) (q := w) (As := [.int u5, .int y2]) X (th_da dtX2_rise 62 rfl) (mX2_fix l w p hw _ _ _ _ _ e9) wcd_X2_fix wml_X2_70 wim_X2_fix wse_X2_fix win_X2_fix hd_X2_fix ⟨Nat.le_of_ble_eq_true rfl, Nat.le_of_ble_eq_true rfl⟩ (Nat.le_of_ble_eq_true rfl) rfl (W_0 hw) rfl ?_
        refine V_iload_n (pc := 113) X (th_da dtX2_rise 63 rfl) rfl ?_
        refine V_iload (pc := 114) X (th_da dtX2_rise 64 rfl) rfl ?_
        refine V_iconst (pc := 116) (v := (-1)) X (th_da dtX2_rise 65 rfl) (by decide) ?_
        refine V_ixor (pc := 117) X (th_da dtX2_rise 66 rfl) ?_
        refine V_iand (pc := 118) X (th_da dtX2_rise 67 rfl) ?_
        refine V_istore_n (pc := 119) (ls2 := [.ref w, .int (y1 &&& (u5 ^^^ (-1))), .int y2, .int u3, .int u4, .int u5]) X (th_da dtX2_rise 68 rfl) (Nat.le_of_ble_eq_true rfl) rfl rfl ?_
        refine V_aload_n (pc := 120) X (th_da dtX2_rise 69 rfl) rfl ?_
        refine V_iload_n (pc := 121) X (th_da dtX2_rise 70 rfl) rfl ?_
        refine V_iconst (pc := 122) (v := 1) X (th_da dtX2_rise 71 rfl) (by decide) ?_
        refine V_iadd (pc := 123) X (th_da dtX2_rise 72 rfl) ?_
        obtain ⟨h10, e10, hf⟩ := th_st_some hf
        refine V_putI (pc := 124) (j := 8) (ty := .int) X (th_da dtX2_rise 73 rfl) wfl_X2_53 iX2 rfl (W_0 hw) (Nat.le_of_ble_eq_true rfl) rfl tyX2 tyX2_ok nmX2 rfl (tyX2_ok 8 (Nat.le_of_ble_eq_true rfl)) rfl rfl e10 ?_
        refine V_iinc (pc := 127) (v := y2 + 1) (ls2 := [.ref w, .int (y1 &&& (u5 ^^^ (-1))), .int (y2 + 1), .int u3, .int u4, .int u5]) X (th_da dtX2_rise 74 rfl) rfl rfl (Nat.le_of_ble_eq_true rfl) rfl rfl ?_
        refine V_goto (pc := 130) (tgt := 50) X (th_da dtX2_rise 75 rfl) (by decide) ?_
        refine V_mask [true, true, true, false, false, false] (ls2 := [.ref w, .int (y1 &&& (u5 ^^^ (-1))), .int (y2 + 1), .null, .null, .null]) rfl ?_
        exact ih _ _ _ hf
    · rw [if_neg c1] at hf
      exact V_vretF (pc := 133) X (th_da dtX2_rise 76 rfl) hf
set_option maxHeartbeats 4000000 in
set_option maxRecDepth 100000 in
theorem mX2_rise (l : Launch) (w : Nat) (p : Nat) (hw : isW w p) (h : th_H) (rr : Unit) (hh : th_H) (hf : fX2_rise w p h = some (rr, hh)) : th_MI l LC yX2_rise cX2_rise 6 none 4 96 [.ref w] h none hh := by
  refine th_MI_of (ls := [.ref w, .null, .null, .null, .null, .null]) RX2 rfl rfl rfl (Nat.le_of_ble_eq_true rfl) ?_
  intro p0 e s m args below meth c D cI cZ ad X
  unfold fX2_rise at hf
  refine V_aload_n (pc := 0) X (th_da dtX2_rise 0 rfl) rfl ?_
  refine V_getI (pc := 1) (j := 9) X (th_da dtX2_rise 1 rfl) wfl_X2_33 iX2 rfl (W_0 hw) (Nat.le_of_ble_eq_true rfl) rfl ?_
  refine V_aload_n (pc := 4) X (th_da dtX2_rise 2 rfl) rfl ?_
  refine V_getR (pc := 5) (j := 0) (t := p) X (th_da dtX2_rise 3 rfl) wfl_X2_37 iX2 rfl (W_0 hw) (Nat.le_of_ble_eq_true rfl) rfl ?_
  refine V_getI (pc := 8) (j := 8) X (th_da dtX2_rise 4 rfl) wfl_X2_41 iX0 rfl (P_0 (W_p hw)) (Nat.le_of_ble_eq_true rfl) rfl ?_
  refine V_icmp_ne (pc := 11) (tgt := 15) X (th_da dtX2_rise 5 rfl) (by decide) (fun c1 => ?_) (fun c1 => ?_)
  · rw [if_pos c1] at hf
    exact V_vretF (pc := 14) X (th_da dtX2_rise 6 rfl) hf
  · rw [if_neg c1] at hf
    refine V_aload_n (pc := 15) X (th_da dtX2_rise 7 rfl) rfl ?_
    refine V_aload_n (pc := 16) X (th_da dtX2_rise 8 rfl) rfl ?_
    refine V_getR (pc := 17) (j := 0) (t := p) X (th_da dtX2_rise 9 rfl) wfl_X2_37 iX2 rfl (W_0 hw) (Nat.le_of_ble_eq_true rfl) rfl ?_
    refine V_getI (pc := 20) (j := 8) X (th_da dtX2_rise 10 rfl) wfl_X2_41 iX0 rfl (P_0 (W_p hw)) (Nat.le_of_ble_eq_true rfl) rfl ?_
    obtain ⟨h2, e2, hf⟩ := th_st_some hf
    refine V_putI (pc := 23) (j := 9) (ty := .int) X (th_da dtX2_rise 11 rfl) wfl_X2_33 iX2 rfl (W_0 hw) (Nat.le_of_ble_eq_true rfl) rfl tyX2 tyX2_ok nmX2 rfl (tyX2_ok 9 (Nat.le_of_ble_eq_true rfl)) rfl rfl e2 ?_
    refine V_aload_n (pc := 26) X (th_da dtX2_rise 12 rfl) rfl ?_
    refine V_getR (pc := 27) (j := 1) (t := (w + 1)) X (th_da dtX2_rise 13 rfl) wfl_X2_9 iX2 rfl (W_0 hw) (Nat.le_of_ble_eq_true rfl) rfl ?_
    refine V_ldc (pc := 30) (v := 1000000) X (th_da dtX2_rise 14 rfl) wco_X2_46 ?_
    obtain ⟨u3, h3, e3, hf⟩ := th_bd_some hf
    refine V_callSv (pc := 32) (As := [.ref (w + 1), .int 1000000]) X (th_da dtX2_rise 15 rfl) (mJ7_fill_53178 l (w + 1) 20 (W_1 hw) _ _ _ _ e3) wcd_J7_fill_53178 wml_X2_47 wst_J7_fill_53178 win_J7_fill_53178 hd_J7_fill_53178 ⟨Nat.le_of_ble_eq_true rfl, Nat.le_of_ble_eq_true rfl⟩ (Nat.le_of_ble_eq_true rfl) rfl ?_
    refine V_aload_n (pc := 35) X (th_da dtX2_rise 16 rfl) rfl ?_
    refine V_iconst (pc := 36) (v := 0) X (th_da dtX2_rise 17 rfl) (by decide) ?_
    obtain ⟨h4, e4, hf⟩ := th_st_some hf
    refine V_putI (pc := 37) (j := 8) (ty := .int) X (th_da dtX2_rise 18 rfl) wfl_X2_53 iX2 rfl (W_0 hw) (Nat.le_of_ble_eq_true rfl) rfl tyX2 tyX2_ok nmX2 rfl (tyX2_ok 8 (Nat.le_of_ble_eq_true rfl)) rfl rfl e4 ?_
    refine V_aload_n (pc := 40) X (th_da dtX2_rise 19 rfl) rfl ?_
    refine V_getR (pc := 41) (j := 0) (t := p) X (th_da dtX2_rise 20 rfl) wfl_X2_37 iX2 rfl (W_0 hw) (Nat.le_of_ble_eq_true rfl) rfl ?_
    refine V_getI (pc := 44) (j := 7) X (th_da dtX2_rise 21 rfl) wfl_X2_56 iX0 rfl (P_0 (W_p hw)) (Nat.le_of_ble_eq_true rfl) rfl ?_
    refine V_istore_n (pc := 47) (ls2 := [.ref w, .int (h4.1 p 7), .null, .null, .null, .null]) X (th_da dtX2_rise 22 rfl) (Nat.le_of_ble_eq_true rfl) rfl rfl ?_
    refine V_iconst (pc := 48) (v := 0) X (th_da dtX2_rise 23 rfl) (by decide) ?_
    refine V_istore_n (pc := 49) (ls2 := [.ref w, .int (h4.1 p 7), .int 0, .null, .null, .null]) X (th_da dtX2_rise 24 rfl) (Nat.le_of_ble_eq_true rfl) rfl rfl ?_
    exact tX2_rise_c50 X _ _ hw _ _ _ _ hf
end
def fX2_rateOf (w : Nat) (p : Nat) (x1 : Int32) (h : th_H) : Option (Int32 × th_H) :=
  th_bd (fX0_has p x1 h) fun u1 h1 =>
  if (u1 = 0 : Prop) then
    some ((-1), h1)
  else
    th_rd h1 (w + 1) 20 x1 fun v3 =>
    th_bd (fX0_rateBy p x1 v3 h1) fun u4 h4 =>
    some (u4, h4)
def tbX2_rateOf : List (Nat × Instr × Nat) := [(0, .aload_n 0, 1), (1, .getfield 37, 3), (4, .iload_n 1, 1), (5, .invokevirtual 98, 3), (8, .ifCond .eq 20, 3), (11, .aload_n 0, 1), (12, .getfield 37, 3), (15, .iload_n 1, 1), (16, .aload_n 0, 1), (17, .getfield 9, 3), (20, .iload_n 1, 1), (21, .iaload, 1), (22, .invokevirtual 102, 3), (25, .goto 4, 3), (28, .iconst (-1), 1), (29, .ireturn, 1)]
theorem dtX2_rateOf : th_dec cX2_rateOf tbX2_rateOf = true := by decide +kernel
section
variable {p0 : Program} {l : Launch} {e : Env} {s : State} {m : MethodId} {args : Array Value} {below : List Frame} {meth : Method} {c : Code} {D : va_G} {cI cZ : ClassId} {ad : Nat → Nat} {rr : Int32} {hh : th_H}
set_option maxHeartbeats 4000000 in
set_option maxRecDepth 100000 in
theorem mX2_rateOf (l : Launch) (w : Nat) (p : Nat) (hw : isW w p) (x1 : Int32) (h : th_H) (rr : Int32) (hh : th_H) (hf : fX2_rateOf w p x1 h = some (rr, hh)) : th_MI l LC yX2_rateOf cX2_rateOf 2 (some .int) 2 43 [.ref w, .int x1] h (some (.int rr)) hh := by
  refine th_MI_of (ls := [.ref w, .int x1]) RX2 rfl rfl rfl (Nat.le_of_ble_eq_true rfl) ?_
  intro p0 e s m args below meth c D cI cZ ad X
  unfold fX2_rateOf at hf
  refine V_aload_n (pc := 0) X (th_da dtX2_rateOf 0 rfl) rfl ?_
  refine V_getR (pc := 1) (j := 0) (t := p) X (th_da dtX2_rateOf 1 rfl) wfl_X2_37 iX2 rfl (W_0 hw) (Nat.le_of_ble_eq_true rfl) rfl ?_
  refine V_iload_n (pc := 4) X (th_da dtX2_rateOf 2 rfl) rfl ?_
  obtain ⟨u1, h1, e1, hf⟩ := th_bd_some hf
  refine V_callVi (pc := 5) (q := p) (As := [.int x1]) X (th_da dtX2_rateOf 3 rfl) (mX0_has l p (W_p hw) _ _ _ _ e1) wcd_X0_has wml_X2_98 wim_X0_has wse_X0_has win_X0_has hd_X0_has ⟨Nat.le_of_ble_eq_true rfl, Nat.le_of_ble_eq_true rfl⟩ (Nat.le_of_ble_eq_true rfl) rfl (P_0 (W_p hw)) rfl ?_
  refine V_if_eq (pc := 8) (tgt := 28) X (th_da dtX2_rateOf 4 rfl) (by decide) (fun c2 => ?_) (fun c2 => ?_)
  · rw [if_pos c2] at hf
    refine V_iconst (pc := 28) (v := (-1)) X (th_da dtX2_rateOf 14 rfl) (by decide) ?_
    exact V_iretF (pc := 29) X (th_da dtX2_rateOf 15 rfl) hf
  · rw [if_neg c2] at hf
    refine V_aload_n (pc := 11) X (th_da dtX2_rateOf 5 rfl) rfl ?_
    refine V_getR (pc := 12) (j := 0) (t := p) X (th_da dtX2_rateOf 6 rfl) wfl_X2_37 iX2 rfl (W_0 hw) (Nat.le_of_ble_eq_true rfl) rfl ?_
    refine V_iload_n (pc := 15) X (th_da dtX2_rateOf 7 rfl) rfl ?_
    refine V_aload_n (pc := 16) X (th_da dtX2_rateOf 8 rfl) rfl ?_
    refine V_getR (pc := 17) (j := 1) (t := (w + 1)) X (th_da dtX2_rateOf 9 rfl) wfl_X2_9 iX2 rfl (W_0 hw) (Nat.le_of_ble_eq_true rfl) rfl ?_
    refine V_iload_n (pc := 20) X (th_da dtX2_rateOf 10 rfl) rfl ?_
    obtain ⟨v3, e3, g3, hf⟩ := th_rd_some hf
    refine V_iald (pc := 21) X (th_da dtX2_rateOf 11 rfl) (W_1 hw) g3 e3 ?_
    obtain ⟨u4, h4, e4, hf⟩ := th_bd_some hf
    refine V_callVi (pc := 22) (q := p) (As := [.int x1, .int v3]) X (th_da dtX2_rateOf 12 rfl) (mX0_rateBy l p (W_p hw) _ _ _ _ _ e4) wcd_X0_rateBy wml_X2_102 wim_X0_rateBy wse_X0_rateBy win_X0_rateBy hd_X0_rateBy ⟨Nat.le_of_ble_eq_true rfl, Nat.le_of_ble_eq_true rfl⟩ (Nat.le_of_ble_eq_true rfl) rfl (P_0 (W_p hw)) rfl ?_
    refine V_goto (pc := 25) (tgt := 29) X (th_da dtX2_rateOf 13 rfl) (by decide) ?_
    exact V_iretF (pc := 29) X (th_da dtX2_rateOf 15 rfl) hf
end
def fX2_ratesOf_c4 (w : Nat) (p : Nat) : Nat → Int32 → Int32 → Int32 → th_H → Option (Int32 × th_H)
  | 0, _, _, _, _ => none
  | n + 1, y1, y2, y3, h =>
    if (y3 < 20 : Prop) then
      if (((y1 >>> (y3 &&& 31)) &&& 1) = 0 : Prop) then
        fX2_ratesOf_c4 w p n y1 y2 (y3 + 1) h
      else
        th_rd h (w + 1) 20 y3 fun v3 =>
        th_bd (fX0_rateBy p y3 v3 h) fun u4 h4 =>
        fX2_ratesOf_c4 w p n y1 (y2 + u4) (y3 + 1) h4
    else
      some (y2, h)
def fX2_ratesOf (w : Nat) (p : Nat) (x1 : Int32) (h : th_H) : Option (Int32 × th_H) :=
  fX2_ratesOf_c4 w p 1000 x1 0 0 h
def tbX2_ratesOf : List (Nat × Instr × Nat) := [(0, .iconst 0, 1), (1, .istore_n 2, 1), (2, .iconst 0, 1), (3, .istore_n 3, 1), (4, .iload_n 3, 1), (5, .bipush 20, 2), (7, .if_icmp .ge 34, 3), (10, .iload_n 1, 1), (11, .iload_n 3, 1), (12, .ishr, 1), (13, .iconst 1, 1), (14, .iand, 1), (15, .ifCond .eq 20, 3), (18, .iload_n 2, 1), (19, .aload_n 0, 1), (20, .getfield 37, 3), (23, .iload_n 3, 1), (24, .aload_n 0, 1), (25, .getfield 9, 3), (28, .iload_n 3, 1), (29, .iaload, 1), (30, .invokevirtual 102, 3), (33, .iadd, 1), (34, .istore_n 2, 1), (35, .iinc 3 1, 3), (38, .goto (-34), 3), (41, .iload_n 2, 1), (42, .ireturn, 1)]
theorem dtX2_ratesOf : th_dec cX2_ratesOf tbX2_ratesOf = true := by decide +kernel
section
variable {p0 : Program} {l : Launch} {e : Env} {s : State} {m : MethodId} {args : Array Value} {below : List Frame} {meth : Method} {c : Code} {D : va_G} {cI cZ : ClassId} {ad : Nat → Nat} {rr : Int32} {hh : th_H}
set_option maxHeartbeats 4000000 in
set_option maxRecDepth 100000 in
theorem tX2_ratesOf_c4 (X : th_X p0 s m args meth c D cI cZ ad LC 4 RX2 cX2_ratesOf (some .int)) (w : Nat) (p : Nat) (hw : isW w p) : ∀ (n : Nat) (y1 : Int32) (y2 : Int32) (y3 : Int32) (h : th_H), fX2_ratesOf_c4 w p n y1 y2 y3 h = some (rr, hh) → th_V p0 l e { frames := 2, cells := 0, slots := 0, locals := 43 } s m args below meth c D cI cZ ad LC 4 (some (.int rr)) hh 4 [.ref w, .int y1, .int y2, .int y3] [] h := by
  intro n
  induction n with
  | zero => intro y1 y2 y3 h hf; cases hf
  | succ n ih =>
    intro y1 y2 y3 h hf
    rw [fX2_ratesOf_c4] at hf
    refine V_iload_n (pc := 4) X (th_da dtX2_ratesOf 4 rfl) rfl ?_
    refine V_bipush (pc := 5) (v := 20) X (th_da dtX2_ratesOf 5 rfl) (by decide) ?_
    refine V_icmp_ge (pc := 7) (tgt := 41) X (th_da dtX2_ratesOf 6 rfl) (by decide) (fun c1 => ?_) (fun c1 => ?_)
    · rw [if_pos c1] at hf
      refine V_iload_n (pc := 10) X (th_da dtX2_ratesOf 7 rfl) rfl ?_
      refine V_iload_n (pc := 11) X (th_da dtX2_ratesOf 8 rfl) rfl ?_
      refine V_ishr (pc := 12) X (th_da dtX2_ratesOf 9 rfl) ?_
      refine V_iconst (pc := 13) (v := 1) X (th_da dtX2_ratesOf 10 rfl) (by decide) ?_
      refine V_iand (pc := 14) X (th_da dtX2_ratesOf 11 rfl) ?_
      refine V_if_eq (pc := 15) (tgt := 35) X (th_da dtX2_ratesOf 12 rfl) (by decide) (fun c2 => ?_) (fun c2 => ?_)
      · rw [if_pos c2] at hf
        refine V_iinc (pc := 35) (v := y3 + 1) (ls2 := [.ref w, .int y1, .int y2, .int (y3 + 1)]) X (th_da dtX2_ratesOf 24 rfl) rfl rfl (Nat.le_of_ble_eq_true rfl) rfl rfl ?_
        refine V_goto (pc := 38) (tgt := 4) X (th_da dtX2_ratesOf 25 rfl) (by decide) ?_
        exact ih _ _ _ _ hf
      · rw [if_neg c2] at hf
        refine V_iload_n (pc := 18) X (th_da dtX2_ratesOf 13 rfl) rfl ?_
        refine V_aload_n (pc := 19) X (th_da dtX2_ratesOf 14 rfl) rfl ?_
        refine V_getR (pc := 20) (j := 0) (t := p) X (th_da dtX2_ratesOf 15 rfl) wfl_X2_37 iX2 rfl (W_0 hw) (Nat.le_of_ble_eq_true rfl) rfl ?_
        refine V_iload_n (pc := 23) X (th_da dtX2_ratesOf 16 rfl) rfl ?_
        refine V_aload_n (pc := 24) X (th_da dtX2_ratesOf 17 rfl) rfl ?_
        refine V_getR (pc := 25) (j := 1) (t := (w + 1)) X (th_da dtX2_ratesOf 18 rfl) wfl_X2_9 iX2 rfl (W_0 hw) (Nat.le_of_ble_eq_true rfl) rfl ?_
        refine V_iload_n (pc := 28) X (th_da dtX2_ratesOf 19 rfl) rfl ?_
        obtain ⟨v3, e3, g3, hf⟩ := th_rd_some hf
        refine V_iald (pc := 29) X (th_da dtX2_ratesOf 20 rfl) (W_1 hw) g3 e3 ?_
        obtain ⟨u4, h4, e4, hf⟩ := th_bd_some hf
        refine V_callVi (pc := 30) (q := p) (As := [.int y3, .int v3]) X (th_da dtX2_ratesOf 21 rfl) (mX0_rateBy l p (W_p hw) _ _ _ _ _ e4) wcd_X0_rateBy wml_X2_102 wim_X0_rateBy wse_X0_rateBy win_X0_rateBy hd_X0_rateBy ⟨Nat.le_of_ble_eq_true rfl, Nat.le_of_ble_eq_true rfl⟩ (Nat.le_of_ble_eq_true rfl) rfl (P_0 (W_p hw)) rfl ?_
        refine V_iadd (pc := 33) X (th_da dtX2_ratesOf 22 rfl) ?_
        refine V_istore_n (pc := 34) (ls2 := [.ref w, .int y1, .int (y2 + u4), .int y3]) X (th_da dtX2_ratesOf 23 rfl) (Nat.le_of_ble_eq_true rfl) rfl rfl ?_
        refine V_iinc (pc := 35) (v := y3 + 1) (ls2 := [.ref w, .int y1, .int (y2 + u4), .int (y3 + 1)]) X (th_da dtX2_ratesOf 24 rfl) rfl rfl (Nat.le_of_ble_eq_true rfl) rfl rfl ?_
        refine V_goto (pc := 38) (tgt := 4) X (th_da dtX2_ratesOf 25 rfl) (by decide) ?_
        exact ih _ _ _ _ hf
    · rw [if_neg c1] at hf
      refine V_iload_n (pc := 41) X (th_da dtX2_ratesOf 26 rfl) rfl ?_
      exact V_iretF (pc := 42) X (th_da dtX2_ratesOf 27 rfl) hf
set_option maxHeartbeats 4000000 in
set_option maxRecDepth 100000 in
theorem mX2_ratesOf (l : Launch) (w : Nat) (p : Nat) (hw : isW w p) (x1 : Int32) (h : th_H) (rr : Int32) (hh : th_H) (hf : fX2_ratesOf w p x1 h = some (rr, hh)) : th_MI l LC yX2_ratesOf cX2_ratesOf 4 (some .int) 2 43 [.ref w, .int x1] h (some (.int rr)) hh := by
  refine th_MI_of (ls := [.ref w, .int x1, .null, .null]) RX2 rfl rfl rfl (Nat.le_of_ble_eq_true rfl) ?_
  intro p0 e s m args below meth c D cI cZ ad X
  unfold fX2_ratesOf at hf
  refine V_iconst (pc := 0) (v := 0) X (th_da dtX2_ratesOf 0 rfl) (by decide) ?_
  refine V_istore_n (pc := 1) (ls2 := [.ref w, .int x1, .int 0, .null]) X (th_da dtX2_ratesOf 1 rfl) (Nat.le_of_ble_eq_true rfl) rfl rfl ?_
  refine V_iconst (pc := 2) (v := 0) X (th_da dtX2_ratesOf 2 rfl) (by decide) ?_
  refine V_istore_n (pc := 3) (ls2 := [.ref w, .int x1, .int 0, .int 0]) X (th_da dtX2_ratesOf 3 rfl) (Nat.le_of_ble_eq_true rfl) rfl rfl ?_
  exact tX2_ratesOf_c4 X _ _ hw _ _ _ _ _ hf
end
def fX2_leftOf (w : Nat) (p : Nat) (x1 : Int32) (h : th_H) : Option (Int32 × th_H) :=
  th_rd h (p + 1) 10 x1 fun v1 =>
  th_rd h (p + 2) 10 x1 fun v2 =>
  th_bd (fX2_ratesOf w p v2 h) fun u3 h3 =>
  some (v1 - u3, h3)
def tbX2_leftOf : List (Nat × Instr × Nat) := [(0, .aload_n 0, 1), (1, .getfield 37, 3), (4, .getfield 105, 3), (7, .iload_n 1, 1), (8, .iaload, 1), (9, .aload_n 0, 1), (10, .aload_n 0, 1), (11, .getfield 37, 3), (14, .getfield 74, 3), (17, .iload_n 1, 1), (18, .iaload, 1), (19, .invokevirtual 108, 3), (22, .isub, 1), (23, .ireturn, 1)]
theorem dtX2_leftOf : th_dec cX2_leftOf tbX2_leftOf = true := by decide +kernel
section
variable {p0 : Program} {l : Launch} {e : Env} {s : State} {m : MethodId} {args : Array Value} {below : List Frame} {meth : Method} {c : Code} {D : va_G} {cI cZ : ClassId} {ad : Nat → Nat} {rr : Int32} {hh : th_H}
set_option maxHeartbeats 4000000 in
set_option maxRecDepth 100000 in
theorem mX2_leftOf (l : Launch) (w : Nat) (p : Nat) (hw : isW w p) (x1 : Int32) (h : th_H) (rr : Int32) (hh : th_H) (hf : fX2_leftOf w p x1 h = some (rr, hh)) : th_MI l LC yX2_leftOf cX2_leftOf 2 (some .int) 3 66 [.ref w, .int x1] h (some (.int rr)) hh := by
  refine th_MI_of (ls := [.ref w, .int x1]) RX2 rfl rfl rfl (Nat.le_of_ble_eq_true rfl) ?_
  intro p0 e s m args below meth c D cI cZ ad X
  unfold fX2_leftOf at hf
  refine V_aload_n (pc := 0) X (th_da dtX2_leftOf 0 rfl) rfl ?_
  refine V_getR (pc := 1) (j := 0) (t := p) X (th_da dtX2_leftOf 1 rfl) wfl_X2_37 iX2 rfl (W_0 hw) (Nat.le_of_ble_eq_true rfl) rfl ?_
  refine V_getR (pc := 4) (j := 0) (t := (p + 1)) X (th_da dtX2_leftOf 2 rfl) wfl_X2_105 iX0 rfl (P_0 (W_p hw)) (Nat.le_of_ble_eq_true rfl) rfl ?_
  refine V_iload_n (pc := 7) X (th_da dtX2_leftOf 3 rfl) rfl ?_
  obtain ⟨v1, e1, g1, hf⟩ := th_rd_some hf
  refine V_iald (pc := 8) X (th_da dtX2_leftOf 4 rfl) (P_1 (W_p hw)) g1 e1 ?_
  refine V_aload_n (pc := 9) X (th_da dtX2_leftOf 5 rfl) rfl ?_
  refine V_aload_n (pc := 10) X (th_da dtX2_leftOf 6 rfl) rfl ?_
  refine V_getR (pc := 11) (j := 0) (t := p) X (th_da dtX2_leftOf 7 rfl) wfl_X2_37 iX2 rfl (W_0 hw) (Nat.le_of_ble_eq_true rfl) rfl ?_
  refine V_getR (pc := 14) (j := 1) (t := (p + 2)) X (th_da dtX2_leftOf 8 rfl) wfl_X2_74 iX0 rfl (P_0 (W_p hw)) (Nat.le_of_ble_eq_true rfl) rfl ?_
  refine V_iload_n (pc := 17) X (th_da dtX2_leftOf 9 rfl) rfl ?_
  obtain ⟨v2, e2, g2, hf⟩ := th_rd_some hf
  refine V_iald (pc := 18) X (th_da dtX2_leftOf 10 rfl) (P_2 (W_p hw)) g2 e2 ?_
  obtain ⟨u3, h3, e3, hf⟩ := th_bd_some hf
  refine V_callVi (pc := 19) (q := w) (As := [.int v2]) X (th_da dtX2_leftOf 11 rfl) (mX2_ratesOf l w p hw _ _ _ _ e3) wcd_X2_ratesOf wml_X2_108 wim_X2_ratesOf wse_X2_ratesOf win_X2_ratesOf hd_X2_ratesOf ⟨Nat.le_of_ble_eq_true rfl, Nat.le_of_ble_eq_true rfl⟩ (Nat.le_of_ble_eq_true rfl) rfl (W_0 hw) rfl ?_
  refine V_isub (pc := 22) X (th_da dtX2_leftOf 12 rfl) ?_
  exact V_iretF (pc := 23) X (th_da dtX2_leftOf 13 rfl) hf
end
def fX2_witnessedBy_c4 (w : Nat) (p : Nat) : Nat → Int32 → Int32 → Int32 → th_H → Option (Int32 × th_H)
  | 0, _, _, _, _ => none
  | n + 1, y1, y2, y3, h =>
    if (y3 < 20 : Prop) then
      th_bd (fX0_has p y3 h) fun u2 h2 =>
      if (u2 = 0 : Prop) then
        fX2_witnessedBy_c4 w p n y1 (y2 + 0) (y3 + 1) h2
      else
        th_rd h2 (w + 2) 20 y3 fun v4 =>
        if (v4 = y1 : Prop) then
          fX2_witnessedBy_c4 w p n y1 (y2 + 1) (y3 + 1) h2
        else
          fX2_witnessedBy_c4 w p n y1 (y2 + 0) (y3 + 1) h2
    else
      some (y2, h)
def fX2_witnessedBy (w : Nat) (p : Nat) (x1 : Int32) (h : th_H) : Option (Int32 × th_H) :=
  fX2_witnessedBy_c4 w p 1000 x1 0 0 h
def tbX2_witnessedBy : List (Nat × Instr × Nat) := [(0, .iconst 0, 1), (1, .istore_n 2, 1), (2, .iconst 0, 1), (3, .istore_n 3, 1), (4, .iload_n 3, 1), (5, .bipush 20, 2), (7, .if_icmp .ge 38, 3), (10, .iload_n 2, 1), (11, .aload_n 0, 1), (12, .getfield 37, 3), (15, .iload_n 3, 1), (16, .invokevirtual 98, 3), (19, .ifCond .eq 17, 3), (22, .aload_n 0, 1), (23, .getfield 15, 3), (26, .iload_n 3, 1), (27, .iaload, 1), (28, .iload_n 1, 1), (29, .if_icmp .ne 7, 3), (32, .iconst 1, 1), (33, .goto 4, 3), (36, .iconst 0, 1), (37, .iadd, 1), (38, .istore_n 2, 1), (39, .iinc 3 1, 3), (42, .goto (-38), 3), (45, .iload_n 2, 1), (46, .ireturn, 1)]
theorem dtX2_witnessedBy : th_dec cX2_witnessedBy tbX2_witnessedBy = true := by decide +kernel
section
variable {p0 : Program} {l : Launch} {e : Env} {s : State} {m : MethodId} {args : Array Value} {below : List Frame} {meth : Method} {c : Code} {D : va_G} {cI cZ : ClassId} {ad : Nat → Nat} {rr : Int32} {hh : th_H}
set_option maxHeartbeats 4000000 in
set_option maxRecDepth 100000 in
theorem tX2_witnessedBy_c4 (X : th_X p0 s m args meth c D cI cZ ad LC 4 RX2 cX2_witnessedBy (some .int)) (w : Nat) (p : Nat) (hw : isW w p) : ∀ (n : Nat) (y1 : Int32) (y2 : Int32) (y3 : Int32) (h : th_H), fX2_witnessedBy_c4 w p n y1 y2 y3 h = some (rr, hh) → th_V p0 l e { frames := 1, cells := 0, slots := 0, locals := 21 } s m args below meth c D cI cZ ad LC 4 (some (.int rr)) hh 4 [.ref w, .int y1, .int y2, .int y3] [] h := by
  intro n
  induction n with
  | zero => intro y1 y2 y3 h hf; cases hf
  | succ n ih =>
    intro y1 y2 y3 h hf
    rw [fX2_witnessedBy_c4] at hf
    refine V_iload_n (pc := 4) X (th_da dtX2_witnessedBy 4 rfl) rfl ?_
    refine V_bipush (pc := 5) (v := 20) X (th_da dtX2_witnessedBy 5 rfl) (by decide) ?_
    refine V_icmp_ge (pc := 7) (tgt := 45) X (th_da dtX2_witnessedBy 6 rfl) (by decide) (fun c1 => ?_) (fun c1 => ?_)
    · rw [if_pos c1] at hf
      refine V_iload_n (pc := 10) X (th_da dtX2_witnessedBy 7 rfl) rfl ?_
      refine V_aload_n (pc := 11) X (th_da dtX2_witnessedBy 8 rfl) rfl ?_
      refine V_getR (pc := 12) (j := 0) (t := p) X (th_da dtX2_witnessedBy 9 rfl) wfl_X2_37 iX2 rfl (W_0 hw) (Nat.le_of_ble_eq_true rfl) rfl ?_
      refine V_iload_n (pc := 15) X (th_da dtX2_witnessedBy 10 rfl) rfl ?_
      obtain ⟨u2, h2, e2, hf⟩ := th_bd_some hf
      refine V_callVi (pc := 16) (q := p) (As := [.int y3]) X (th_da dtX2_witnessedBy 11 rfl) (mX0_has l p (W_p hw) _ _ _ _ e2) wcd_X0_has wml_X2_98 wim_X0_has wse_X0_has win_X0_has hd_X0_has ⟨Nat.le_of_ble_eq_true rfl, Nat.le_of_ble_eq_true rfl⟩ (Nat.le_of_ble_eq_true rfl) rfl (P_0 (W_p hw)) rfl ?_
      refine V_if_eq (pc := 19) (tgt := 36) X (th_da dtX2_witnessedBy 12 rfl) (by decide) (fun c3 => ?_) (fun c3 => ?_)
      · rw [if_pos c3] at hf
        refine V_iconst (pc := 36) (v := 0) X (th_da dtX2_witnessedBy 21 rfl) (by decide) ?_
        refine V_iadd (pc := 37) X (th_da dtX2_witnessedBy 22 rfl) ?_
        refine V_istore_n (pc := 38) (ls2 := [.ref w, .int y1, .int (y2 + 0), .int y3]) X (th_da dtX2_witnessedBy 23 rfl) (Nat.le_of_ble_eq_true rfl) rfl rfl ?_
        refine V_iinc (pc := 39) (v := y3 + 1) (ls2 := [.ref w, .int y1, .int (y2 + 0), .int (y3 + 1)]) X (th_da dtX2_witnessedBy 24 rfl) rfl rfl (Nat.le_of_ble_eq_true rfl) rfl rfl ?_
        refine V_goto (pc := 42) (tgt := 4) X (th_da dtX2_witnessedBy 25 rfl) (by decide) ?_
        exact ih _ _ _ _ hf
      · rw [if_neg c3] at hf
        refine V_aload_n (pc := 22) X (th_da dtX2_witnessedBy 13 rfl) rfl ?_
        refine V_getR (pc := 23) (j := 2) (t := (w + 2)) X (th_da dtX2_witnessedBy 14 rfl) wfl_X2_15 iX2 rfl (W_0 hw) (Nat.le_of_ble_eq_true rfl) rfl ?_
        refine V_iload_n (pc := 26) X (th_da dtX2_witnessedBy 15 rfl) rfl ?_
        obtain ⟨v4, e4, g4, hf⟩ := th_rd_some hf
        refine V_iald (pc := 27) X (th_da dtX2_witnessedBy 16 rfl) (W_2 hw) g4 e4 ?_
        refine V_iload_n (pc := 28) X (th_da dtX2_witnessedBy 17 rfl) rfl ?_
        refine V_icmp_ne (pc := 29) (tgt := 36) X (th_da dtX2_witnessedBy 18 rfl) (by decide) (fun c5 => ?_) (fun c5 => ?_)
        · rw [if_pos c5] at hf
          refine V_iconst (pc := 32) (v := 1) X (th_da dtX2_witnessedBy 19 rfl) (by decide) ?_
          refine V_goto (pc := 33) (tgt := 37) X (th_da dtX2_witnessedBy 20 rfl) (by decide) ?_
          refine V_iadd (pc := 37) X (th_da dtX2_witnessedBy 22 rfl) ?_
          refine V_istore_n (pc := 38) (ls2 := [.ref w, .int y1, .int (y2 + 1), .int y3]) X (th_da dtX2_witnessedBy 23 rfl) (Nat.le_of_ble_eq_true rfl) rfl rfl ?_
          refine V_iinc (pc := 39) (v := y3 + 1) (ls2 := [.ref w, .int y1, .int (y2 + 1), .int (y3 + 1)]) X (th_da dtX2_witnessedBy 24 rfl) rfl rfl (Nat.le_of_ble_eq_true rfl) rfl rfl ?_
          refine V_goto (pc := 42) (tgt := 4) X (th_da dtX2_witnessedBy 25 rfl) (by decide) ?_
          exact ih _ _ _ _ hf
        · rw [if_neg c5] at hf
          refine V_iconst (pc := 36) (v := 0) X (th_da dtX2_witnessedBy 21 rfl) (by decide) ?_
          refine V_iadd (pc := 37) X (th_da dtX2_witnessedBy 22 rfl) ?_
          refine V_istore_n (pc := 38) (ls2 := [.ref w, .int y1, .int (y2 + 0), .int y3]) X (th_da dtX2_witnessedBy 23 rfl) (Nat.le_of_ble_eq_true rfl) rfl rfl ?_
          refine V_iinc (pc := 39) (v := y3 + 1) (ls2 := [.ref w, .int y1, .int (y2 + 0), .int (y3 + 1)]) X (th_da dtX2_witnessedBy 24 rfl) rfl rfl (Nat.le_of_ble_eq_true rfl) rfl rfl ?_
          refine V_goto (pc := 42) (tgt := 4) X (th_da dtX2_witnessedBy 25 rfl) (by decide) ?_
          exact ih _ _ _ _ hf
    · rw [if_neg c1] at hf
      refine V_iload_n (pc := 45) X (th_da dtX2_witnessedBy 26 rfl) rfl ?_
      exact V_iretF (pc := 46) X (th_da dtX2_witnessedBy 27 rfl) hf
set_option maxHeartbeats 4000000 in
set_option maxRecDepth 100000 in
theorem mX2_witnessedBy (l : Launch) (w : Nat) (p : Nat) (hw : isW w p) (x1 : Int32) (h : th_H) (rr : Int32) (hh : th_H) (hf : fX2_witnessedBy w p x1 h = some (rr, hh)) : th_MI l LC yX2_witnessedBy cX2_witnessedBy 4 (some .int) 1 21 [.ref w, .int x1] h (some (.int rr)) hh := by
  refine th_MI_of (ls := [.ref w, .int x1, .null, .null]) RX2 rfl rfl rfl (Nat.le_of_ble_eq_true rfl) ?_
  intro p0 e s m args below meth c D cI cZ ad X
  unfold fX2_witnessedBy at hf
  refine V_iconst (pc := 0) (v := 0) X (th_da dtX2_witnessedBy 0 rfl) (by decide) ?_
  refine V_istore_n (pc := 1) (ls2 := [.ref w, .int x1, .int 0, .null]) X (th_da dtX2_witnessedBy 1 rfl) (Nat.le_of_ble_eq_true rfl) rfl rfl ?_
  refine V_iconst (pc := 2) (v := 0) X (th_da dtX2_witnessedBy 2 rfl) (by decide) ?_
  refine V_istore_n (pc := 3) (ls2 := [.ref w, .int x1, .int 0, .int 0]) X (th_da dtX2_witnessedBy 3 rfl) (Nat.le_of_ble_eq_true rfl) rfl rfl ?_
  exact tX2_witnessedBy_c4 X _ _ hw _ _ _ _ _ hf
end
def fX2_leastLevel_c4 (w : Nat) (p : Nat) : Nat → Int32 → Int32 → th_H → Option (Int32 × th_H)
  | 0, _, _, _ => none
  | n + 1, y1, y2, h =>
    if (y2 < 20 : Prop) then
      th_bd (fX0_has p y2 h) fun u2 h2 =>
      if (u2 = 0 : Prop) then
        fX2_leastLevel_c4 w p n y1 (y2 + 1) h2
      else
        if (y1 = (-1) : Prop) then
          th_rd h2 (w + 1) 20 y2 fun v5 =>
          fX2_leastLevel_c4 w p n v5 (y2 + 1) h2
        else
          th_rd h2 (w + 1) 20 y2 fun v6 =>
          if (v6 < y1 : Prop) then
            th_rd h2 (w + 1) 20 y2 fun v8 =>
            fX2_leastLevel_c4 w p n v8 (y2 + 1) h2
          else
            fX2_leastLevel_c4 w p n y1 (y2 + 1) h2
    else
      some (y1, h)
def fX2_leastLevel (w : Nat) (p : Nat) (h : th_H) : Option (Int32 × th_H) :=
  fX2_leastLevel_c4 w p 1000 (-1) 0 h
def tbX2_leastLevel : List (Nat × Instr × Nat) := [(0, .iconst (-1), 1), (1, .istore_n 1, 1), (2, .iconst 0, 1), (3, .istore_n 2, 1), (4, .iload_n 2, 1), (5, .bipush 20, 2), (7, .if_icmp .ge 42, 3), (10, .aload_n 0, 1), (11, .getfield 37, 3), (14, .iload_n 2, 1), (15, .invokevirtual 98, 3), (18, .ifCond .eq 25, 3), (21, .iload_n 1, 1), (22, .iconst (-1), 1), (23, .if_icmp .eq 13, 3), (26, .aload_n 0, 1), (27, .getfield 9, 3), (30, .iload_n 2, 1), (31, .iaload, 1), (32, .iload_n 1, 1), (33, .if_icmp .ge 10, 3), (36, .aload_n 0, 1), (37, .getfield 9, 3), (40, .iload_n 2, 1), (41, .iaload, 1), (42, .istore_n 1, 1), (43, .iinc 2 1, 3), (46, .goto (-42), 3), (49, .iload_n 1, 1), (50, .ireturn, 1)]
theorem dtX2_leastLevel : th_dec cX2_leastLevel tbX2_leastLevel = true := by decide +kernel
section
variable {p0 : Program} {l : Launch} {e : Env} {s : State} {m : MethodId} {args : Array Value} {below : List Frame} {meth : Method} {c : Code} {D : va_G} {cI cZ : ClassId} {ad : Nat → Nat} {rr : Int32} {hh : th_H}
set_option maxHeartbeats 4000000 in
set_option maxRecDepth 100000 in
theorem tX2_leastLevel_c4 (X : th_X p0 s m args meth c D cI cZ ad LC 3 RX2 cX2_leastLevel (some .int)) (w : Nat) (p : Nat) (hw : isW w p) : ∀ (n : Nat) (y1 : Int32) (y2 : Int32) (h : th_H), fX2_leastLevel_c4 w p n y1 y2 h = some (rr, hh) → th_V p0 l e { frames := 1, cells := 0, slots := 0, locals := 21 } s m args below meth c D cI cZ ad LC 3 (some (.int rr)) hh 4 [.ref w, .int y1, .int y2] [] h := by
  intro n
  induction n with
  | zero => intro y1 y2 h hf; cases hf
  | succ n ih =>
    intro y1 y2 h hf
    rw [fX2_leastLevel_c4] at hf
    refine V_iload_n (pc := 4) X (th_da dtX2_leastLevel 4 rfl) rfl ?_
    refine V_bipush (pc := 5) (v := 20) X (th_da dtX2_leastLevel 5 rfl) (by decide) ?_
    refine V_icmp_ge (pc := 7) (tgt := 49) X (th_da dtX2_leastLevel 6 rfl) (by decide) (fun c1 => ?_) (fun c1 => ?_)
    · rw [if_pos c1] at hf
      refine V_aload_n (pc := 10) X (th_da dtX2_leastLevel 7 rfl) rfl ?_
      refine V_getR (pc := 11) (j := 0) (t := p) X (th_da dtX2_leastLevel 8 rfl) wfl_X2_37 iX2 rfl (W_0 hw) (Nat.le_of_ble_eq_true rfl) rfl ?_
      refine V_iload_n (pc := 14) X (th_da dtX2_leastLevel 9 rfl) rfl ?_
      obtain ⟨u2, h2, e2, hf⟩ := th_bd_some hf
      refine V_callVi (pc := 15) (q := p) (As := [.int y2]) X (th_da dtX2_leastLevel 10 rfl) (mX0_has l p (W_p hw) _ _ _ _ e2) wcd_X0_has wml_X2_98 wim_X0_has wse_X0_has win_X0_has hd_X0_has ⟨Nat.le_of_ble_eq_true rfl, Nat.le_of_ble_eq_true rfl⟩ (Nat.le_of_ble_eq_true rfl) rfl (P_0 (W_p hw)) rfl ?_
      refine V_if_eq (pc := 18) (tgt := 43) X (th_da dtX2_leastLevel 11 rfl) (by decide) (fun c3 => ?_) (fun c3 => ?_)
      · rw [if_pos c3] at hf
        refine V_iinc (pc := 43) (v := y2 + 1) (ls2 := [.ref w, .int y1, .int (y2 + 1)]) X (th_da dtX2_leastLevel 26 rfl) rfl rfl (Nat.le_of_ble_eq_true rfl) rfl rfl ?_
        refine V_goto (pc := 46) (tgt := 4) X (th_da dtX2_leastLevel 27 rfl) (by decide) ?_
        exact ih _ _ _ hf
      · rw [if_neg c3] at hf
        refine V_iload_n (pc := 21) X (th_da dtX2_leastLevel 12 rfl) rfl ?_
        refine V_iconst (pc := 22) (v := (-1)) X (th_da dtX2_leastLevel 13 rfl) (by decide) ?_
        refine V_icmp_eq (pc := 23) (tgt := 36) X (th_da dtX2_leastLevel 14 rfl) (by decide) (fun c4 => ?_) (fun c4 => ?_)
        · rw [if_pos c4] at hf
          refine V_aload_n (pc := 36) X (th_da dtX2_leastLevel 21 rfl) rfl ?_
          refine V_getR (pc := 37) (j := 1) (t := (w + 1)) X (th_da dtX2_leastLevel 22 rfl) wfl_X2_9 iX2 rfl (W_0 hw) (Nat.le_of_ble_eq_true rfl) rfl ?_
          refine V_iload_n (pc := 40) X (th_da dtX2_leastLevel 23 rfl) rfl ?_
          obtain ⟨v5, e5, g5, hf⟩ := th_rd_some hf
          refine V_iald (pc := 41) X (th_da dtX2_leastLevel 24 rfl) (W_1 hw) g5 e5 ?_
          refine V_istore_n (pc := 42) (ls2 := [.ref w, .int v5, .int y2]) X (th_da dtX2_leastLevel 25 rfl) (Nat.le_of_ble_eq_true rfl) rfl rfl ?_
          refine V_iinc (pc := 43) (v := y2 + 1) (ls2 := [.ref w, .int v5, .int (y2 + 1)]) X (th_da dtX2_leastLevel 26 rfl) rfl rfl (Nat.le_of_ble_eq_true rfl) rfl rfl ?_
          refine V_goto (pc := 46) (tgt := 4) X (th_da dtX2_leastLevel 27 rfl) (by decide) ?_
          exact ih _ _ _ hf
        · rw [if_neg c4] at hf
          refine V_aload_n (pc := 26) X (th_da dtX2_leastLevel 15 rfl) rfl ?_
          refine V_getR (pc := 27) (j := 1) (t := (w + 1)) X (th_da dtX2_leastLevel 16 rfl) wfl_X2_9 iX2 rfl (W_0 hw) (Nat.le_of_ble_eq_true rfl) rfl ?_
          refine V_iload_n (pc := 30) X (th_da dtX2_leastLevel 17 rfl) rfl ?_
          obtain ⟨v6, e6, g6, hf⟩ := th_rd_some hf
          refine V_iald (pc := 31) X (th_da dtX2_leastLevel 18 rfl) (W_1 hw) g6 e6 ?_
          refine V_iload_n (pc := 32) X (th_da dtX2_leastLevel 19 rfl) rfl ?_
          refine V_icmp_ge (pc := 33) (tgt := 43) X (th_da dtX2_leastLevel 20 rfl) (by decide) (fun c7 => ?_) (fun c7 => ?_)
          · rw [if_pos c7] at hf
            refine V_aload_n (pc := 36) X (th_da dtX2_leastLevel 21 rfl) rfl ?_
            refine V_getR (pc := 37) (j := 1) (t := (w + 1)) X (th_da dtX2_leastLevel 22 rfl) wfl_X2_9 iX2 rfl (W_0 hw) (Nat.le_of_ble_eq_true rfl) rfl ?_
            refine V_iload_n (pc := 40) X (th_da dtX2_leastLevel 23 rfl) rfl ?_
            obtain ⟨v8, e8, g8, hf⟩ := th_rd_some hf
            refine V_iald (pc := 41) X (th_da dtX2_leastLevel 24 rfl) (W_1 hw) g8 e8 ?_
            refine V_istore_n (pc := 42) (ls2 := [.ref w, .int v8, .int y2]) X (th_da dtX2_leastLevel 25 rfl) (Nat.le_of_ble_eq_true rfl) rfl rfl ?_
            refine V_iinc (pc := 43) (v := y2 + 1) (ls2 := [.ref w, .int v8, .int (y2 + 1)]) X (th_da dtX2_leastLevel 26 rfl) rfl rfl (Nat.le_of_ble_eq_true rfl) rfl rfl ?_
            refine V_goto (pc := 46) (tgt := 4) X (th_da dtX2_leastLevel 27 rfl) (by decide) ?_
            exact ih _ _ _ hf
          · rw [if_neg c7] at hf
            refine V_iinc (pc := 43) (v := y2 + 1) (ls2 := [.ref w, .int y1, .int (y2 + 1)]) X (th_da dtX2_leastLevel 26 rfl) rfl rfl (Nat.le_of_ble_eq_true rfl) rfl rfl ?_
            refine V_goto (pc := 46) (tgt := 4) X (th_da dtX2_leastLevel 27 rfl) (by decide) ?_
            exact ih _ _ _ hf
    · rw [if_neg c1] at hf
      refine V_iload_n (pc := 49) X (th_da dtX2_leastLevel 28 rfl) rfl ?_
      exact V_iretF (pc := 50) X (th_da dtX2_leastLevel 29 rfl) hf
set_option maxHeartbeats 4000000 in
set_option maxRecDepth 100000 in
theorem mX2_leastLevel (l : Launch) (w : Nat) (p : Nat) (hw : isW w p) (h : th_H) (rr : Int32) (hh : th_H) (hf : fX2_leastLevel w p h = some (rr, hh)) : th_MI l LC yX2_leastLevel cX2_leastLevel 3 (some .int) 1 21 [.ref w] h (some (.int rr)) hh := by
  refine th_MI_of (ls := [.ref w, .null, .null]) RX2 rfl rfl rfl (Nat.le_of_ble_eq_true rfl) ?_
  intro p0 e s m args below meth c D cI cZ ad X
  unfold fX2_leastLevel at hf
  refine V_iconst (pc := 0) (v := (-1)) X (th_da dtX2_leastLevel 0 rfl) (by decide) ?_
  refine V_istore_n (pc := 1) (ls2 := [.ref w, .int (-1), .null]) X (th_da dtX2_leastLevel 1 rfl) (Nat.le_of_ble_eq_true rfl) rfl rfl ?_
  refine V_iconst (pc := 2) (v := 0) X (th_da dtX2_leastLevel 2 rfl) (by decide) ?_
  refine V_istore_n (pc := 3) (ls2 := [.ref w, .int (-1), .int 0]) X (th_da dtX2_leastLevel 3 rfl) (Nat.le_of_ble_eq_true rfl) rfl rfl ?_
  exact tX2_leastLevel_c4 X _ _ hw _ _ _ _ hf
end
def fX2_greatestLevel_c4 (w : Nat) (p : Nat) : Nat → Int32 → Int32 → th_H → Option (Int32 × th_H)
  | 0, _, _, _ => none
  | n + 1, y1, y2, h =>
    if (y2 < 20 : Prop) then
      th_bd (fX0_has p y2 h) fun u2 h2 =>
      if (u2 = 0 : Prop) then
        fX2_greatestLevel_c4 w p n y1 (y2 + 1) h2
      else
        th_rd h2 (w + 1) 20 y2 fun v4 =>
        fX2_greatestLevel_c4 w p n (th_mx y1 v4) (y2 + 1) h2
    else
      some (y1, h)
def fX2_greatestLevel (w : Nat) (p : Nat) (h : th_H) : Option (Int32 × th_H) :=
  fX2_greatestLevel_c4 w p 1000 (-1) 0 h
def tbX2_greatestLevel : List (Nat × Instr × Nat) := [(0, .iconst (-1), 1), (1, .istore_n 1, 1), (2, .iconst 0, 1), (3, .istore_n 2, 1), (4, .iload_n 2, 1), (5, .bipush 20, 2), (7, .if_icmp .ge 31, 3), (10, .aload_n 0, 1), (11, .getfield 37, 3), (14, .iload_n 2, 1), (15, .invokevirtual 98, 3), (18, .ifCond .eq 14, 3), (21, .iload_n 1, 1), (22, .aload_n 0, 1), (23, .getfield 9, 3), (26, .iload_n 2, 1), (27, .iaload, 1), (28, .invokestatic 111, 3), (31, .istore_n 1, 1), (32, .iinc 2 1, 3), (35, .goto (-31), 3), (38, .iload_n 1, 1), (39, .ireturn, 1)]
theorem dtX2_greatestLevel : th_dec cX2_greatestLevel tbX2_greatestLevel = true := by decide +kernel
section
variable {p0 : Program} {l : Launch} {e : Env} {s : State} {m : MethodId} {args : Array Value} {below : List Frame} {meth : Method} {c : Code} {D : va_G} {cI cZ : ClassId} {ad : Nat → Nat} {rr : Int32} {hh : th_H}
set_option maxHeartbeats 4000000 in
set_option maxRecDepth 100000 in
theorem tX2_greatestLevel_c4 (X : th_X p0 s m args meth c D cI cZ ad LC 3 RX2 cX2_greatestLevel (some .int)) (w : Nat) (p : Nat) (hw : isW w p) : ∀ (n : Nat) (y1 : Int32) (y2 : Int32) (h : th_H), fX2_greatestLevel_c4 w p n y1 y2 h = some (rr, hh) → th_V p0 l e { frames := 1, cells := 0, slots := 0, locals := 21 } s m args below meth c D cI cZ ad LC 3 (some (.int rr)) hh 4 [.ref w, .int y1, .int y2] [] h := by
  intro n
  induction n with
  | zero => intro y1 y2 h hf; cases hf
  | succ n ih =>
    intro y1 y2 h hf
    rw [fX2_greatestLevel_c4] at hf
    refine V_iload_n (pc := 4) X (th_da dtX2_greatestLevel 4 rfl) rfl ?_
    refine V_bipush (pc := 5) (v := 20) X (th_da dtX2_greatestLevel 5 rfl) (by decide) ?_
    refine V_icmp_ge (pc := 7) (tgt := 38) X (th_da dtX2_greatestLevel 6 rfl) (by decide) (fun c1 => ?_) (fun c1 => ?_)
    · rw [if_pos c1] at hf
      refine V_aload_n (pc := 10) X (th_da dtX2_greatestLevel 7 rfl) rfl ?_
      refine V_getR (pc := 11) (j := 0) (t := p) X (th_da dtX2_greatestLevel 8 rfl) wfl_X2_37 iX2 rfl (W_0 hw) (Nat.le_of_ble_eq_true rfl) rfl ?_
      refine V_iload_n (pc := 14) X (th_da dtX2_greatestLevel 9 rfl) rfl ?_
      obtain ⟨u2, h2, e2, hf⟩ := th_bd_some hf
      refine V_callVi (pc := 15) (q := p) (As := [.int y2]) X (th_da dtX2_greatestLevel 10 rfl) (mX0_has l p (W_p hw) _ _ _ _ e2) wcd_X0_has wml_X2_98 wim_X0_has wse_X0_has win_X0_has hd_X0_has ⟨Nat.le_of_ble_eq_true rfl, Nat.le_of_ble_eq_true rfl⟩ (Nat.le_of_ble_eq_true rfl) rfl (P_0 (W_p hw)) rfl ?_
      refine V_if_eq (pc := 18) (tgt := 32) X (th_da dtX2_greatestLevel 11 rfl) (by decide) (fun c3 => ?_) (fun c3 => ?_)
      · rw [if_pos c3] at hf
        refine V_iinc (pc := 32) (v := y2 + 1) (ls2 := [.ref w, .int y1, .int (y2 + 1)]) X (th_da dtX2_greatestLevel 19 rfl) rfl rfl (Nat.le_of_ble_eq_true rfl) rfl rfl ?_
        refine V_goto (pc := 35) (tgt := 4) X (th_da dtX2_greatestLevel 20 rfl) (by decide) ?_
        exact ih _ _ _ hf
      · rw [if_neg c3] at hf
        refine V_iload_n (pc := 21) X (th_da dtX2_greatestLevel 12 rfl) rfl ?_
        refine V_aload_n (pc := 22) X (th_da dtX2_greatestLevel 13 rfl) rfl ?_
        refine V_getR (pc := 23) (j := 1) (t := (w + 1)) X (th_da dtX2_greatestLevel 14 rfl) wfl_X2_9 iX2 rfl (W_0 hw) (Nat.le_of_ble_eq_true rfl) rfl ?_
        refine V_iload_n (pc := 26) X (th_da dtX2_greatestLevel 15 rfl) rfl ?_
        obtain ⟨v4, e4, g4, hf⟩ := th_rd_some hf
        refine V_iald (pc := 27) X (th_da dtX2_greatestLevel 16 rfl) (W_1 hw) g4 e4 ?_
        refine V_mmax (pc := 28) X (th_da dtX2_greatestLevel 17 rfl) wml_X2_111 wst_J9_max_7cf53 win_J9_max_7cf53 wcd_J9_max_7cf53 (Nat.le_of_ble_eq_true rfl) (Nat.le_of_ble_eq_true rfl) ?_
        refine V_istore_n (pc := 31) (ls2 := [.ref w, .int (th_mx y1 v4), .int y2]) X (th_da dtX2_greatestLevel 18 rfl) (Nat.le_of_ble_eq_true rfl) rfl rfl ?_
        refine V_iinc (pc := 32) (v := y2 + 1) (ls2 := [.ref w, .int (th_mx y1 v4), .int (y2 + 1)]) X (th_da dtX2_greatestLevel 19 rfl) rfl rfl (Nat.le_of_ble_eq_true rfl) rfl rfl ?_
        refine V_goto (pc := 35) (tgt := 4) X (th_da dtX2_greatestLevel 20 rfl) (by decide) ?_
        exact ih _ _ _ hf
    · rw [if_neg c1] at hf
      refine V_iload_n (pc := 38) X (th_da dtX2_greatestLevel 21 rfl) rfl ?_
      exact V_iretF (pc := 39) X (th_da dtX2_greatestLevel 22 rfl) hf
set_option maxHeartbeats 4000000 in
set_option maxRecDepth 100000 in
theorem mX2_greatestLevel (l : Launch) (w : Nat) (p : Nat) (hw : isW w p) (h : th_H) (rr : Int32) (hh : th_H) (hf : fX2_greatestLevel w p h = some (rr, hh)) : th_MI l LC yX2_greatestLevel cX2_greatestLevel 3 (some .int) 1 21 [.ref w] h (some (.int rr)) hh := by
  refine th_MI_of (ls := [.ref w, .null, .null]) RX2 rfl rfl rfl (Nat.le_of_ble_eq_true rfl) ?_
  intro p0 e s m args below meth c D cI cZ ad X
  unfold fX2_greatestLevel at hf
  refine V_iconst (pc := 0) (v := (-1)) X (th_da dtX2_greatestLevel 0 rfl) (by decide) ?_
  refine V_istore_n (pc := 1) (ls2 := [.ref w, .int (-1), .null]) X (th_da dtX2_greatestLevel 1 rfl) (Nat.le_of_ble_eq_true rfl) rfl rfl ?_
  refine V_iconst (pc := 2) (v := 0) X (th_da dtX2_greatestLevel 2 rfl) (by decide) ?_
  refine V_istore_n (pc := 3) (ls2 := [.ref w, .int (-1), .int 0]) X (th_da dtX2_greatestLevel 3 rfl) (Nat.le_of_ble_eq_true rfl) rfl rfl ?_
  exact tX2_greatestLevel_c4 X _ _ hw _ _ _ _ hf
end
def fX2_below_c5 (w : Nat) (p : Nat) : Nat → Int32 → Int32 → Int32 → Int32 → th_H → Option (Int32 × th_H)
  | 0, _, _, _, _, _ => none
  | n + 1, y1, y2, y3, y4, h =>
    if (y4 < 20 : Prop) then
      if (((y1 >>> (y4 &&& 31)) &&& 1) = 0 : Prop) then
        fX2_below_c5 w p n y1 y2 y3 (y4 + 1) h
      else
        th_rd h (w + 1) 20 y4 fun v3 =>
        if (v3 < y2 : Prop) then
          fX2_below_c5 w p n y1 y2 (y3 ||| ((1 : Int32) <<< (y4 &&& 31))) (y4 + 1) h
        else
          fX2_below_c5 w p n y1 y2 y3 (y4 + 1) h
    else
      some (y3, h)
def fX2_below (w : Nat) (p : Nat) (x1 : Int32) (x2 : Int32) (h : th_H) : Option (Int32 × th_H) :=
  fX2_below_c5 w p 1000 x1 x2 0 0 h
def tbX2_below : List (Nat × Instr × Nat) := [(0, .iconst 0, 1), (1, .istore_n 3, 1), (2, .iconst 0, 1), (3, .istore 4, 2), (5, .iload 4, 2), (7, .bipush 20, 2), (9, .if_icmp .ge 36, 3), (12, .iload_n 1, 1), (13, .iload 4, 2), (15, .ishr, 1), (16, .iconst 1, 1), (17, .iand, 1), (18, .ifCond .eq 21, 3), (21, .aload_n 0, 1), (22, .getfield 9, 3), (25, .iload 4, 2), (27, .iaload, 1), (28, .iload_n 2, 1), (29, .if_icmp .ge 10, 3), (32, .iload_n 3, 1), (33, .iconst 1, 1), (34, .iload 4, 2), (36, .ishl, 1), (37, .ior, 1), (38, .istore_n 3, 1), (39, .iinc 4 1, 3), (42, .goto (-37), 3), (45, .iload_n 3, 1), (46, .ireturn, 1)]
theorem dtX2_below : th_dec cX2_below tbX2_below = true := by decide +kernel
section
variable {p0 : Program} {l : Launch} {e : Env} {s : State} {m : MethodId} {args : Array Value} {below : List Frame} {meth : Method} {c : Code} {D : va_G} {cI cZ : ClassId} {ad : Nat → Nat} {rr : Int32} {hh : th_H}
set_option maxHeartbeats 4000000 in
set_option maxRecDepth 100000 in
theorem tX2_below_c5 (X : th_X p0 s m args meth c D cI cZ ad LC 5 RX2 cX2_below (some .int)) (w : Nat) (p : Nat) (hw : isW w p) : ∀ (n : Nat) (y1 : Int32) (y2 : Int32) (y3 : Int32) (y4 : Int32) (h : th_H), fX2_below_c5 w p n y1 y2 y3 y4 h = some (rr, hh) → th_V p0 l e { frames := 0, cells := 0, slots := 0, locals := 0 } s m args below meth c D cI cZ ad LC 5 (some (.int rr)) hh 5 [.ref w, .int y1, .int y2, .int y3, .int y4] [] h := by
  intro n
  induction n with
  | zero => intro y1 y2 y3 y4 h hf; cases hf
  | succ n ih =>
    intro y1 y2 y3 y4 h hf
    rw [fX2_below_c5] at hf
    refine V_iload (pc := 5) X (th_da dtX2_below 4 rfl) rfl ?_
    refine V_bipush (pc := 7) (v := 20) X (th_da dtX2_below 5 rfl) (by decide) ?_
    refine V_icmp_ge (pc := 9) (tgt := 45) X (th_da dtX2_below 6 rfl) (by decide) (fun c1 => ?_) (fun c1 => ?_)
    · rw [if_pos c1] at hf
      refine V_iload_n (pc := 12) X (th_da dtX2_below 7 rfl) rfl ?_
      refine V_iload (pc := 13) X (th_da dtX2_below 8 rfl) rfl ?_
      refine V_ishr (pc := 15) X (th_da dtX2_below 9 rfl) ?_
      refine V_iconst (pc := 16) (v := 1) X (th_da dtX2_below 10 rfl) (by decide) ?_
      refine V_iand (pc := 17) X (th_da dtX2_below 11 rfl) ?_
      refine V_if_eq (pc := 18) (tgt := 39) X (th_da dtX2_below 12 rfl) (by decide) (fun c2 => ?_) (fun c2 => ?_)
      · rw [if_pos c2] at hf
        refine V_iinc (pc := 39) (v := y4 + 1) (ls2 := [.ref w, .int y1, .int y2, .int y3, .int (y4 + 1)]) X (th_da dtX2_below 25 rfl) rfl rfl (Nat.le_of_ble_eq_true rfl) rfl rfl ?_
        refine V_goto (pc := 42) (tgt := 5) X (th_da dtX2_below 26 rfl) (by decide) ?_
        exact ih _ _ _ _ _ hf
      · rw [if_neg c2] at hf
        refine V_aload_n (pc := 21) X (th_da dtX2_below 13 rfl) rfl ?_
        refine V_getR (pc := 22) (j := 1) (t := (w + 1)) X (th_da dtX2_below 14 rfl) wfl_X2_9 iX2 rfl (W_0 hw) (Nat.le_of_ble_eq_true rfl) rfl ?_
        refine V_iload (pc := 25) X (th_da dtX2_below 15 rfl) rfl ?_
        obtain ⟨v3, e3, g3, hf⟩ := th_rd_some hf
        refine V_iald (pc := 27) X (th_da dtX2_below 16 rfl) (W_1 hw) g3 e3 ?_
        refine V_iload_n (pc := 28) X (th_da dtX2_below 17 rfl) rfl ?_
        refine V_icmp_ge (pc := 29) (tgt := 39) X (th_da dtX2_below 18 rfl) (by decide) (fun c4 => ?_) (fun c4 => ?_)
        · rw [if_pos c4] at hf
          refine V_iload_n (pc := 32) X (th_da dtX2_below 19 rfl) rfl ?_
          refine V_iconst (pc := 33) (v := 1) X (th_da dtX2_below 20 rfl) (by decide) ?_
          refine V_iload (pc := 34) X (th_da dtX2_below 21 rfl) rfl ?_
          refine V_ishl (pc := 36) X (th_da dtX2_below 22 rfl) ?_
          refine V_ior (pc := 37) X (th_da dtX2_below 23 rfl) ?_
          refine V_istore_n (pc := 38) (ls2 := [.ref w, .int y1, .int y2, .int (y3 ||| ((1 : Int32) <<< (y4 &&& 31))), .int y4]) X (th_da dtX2_below 24 rfl) (Nat.le_of_ble_eq_true rfl) rfl rfl ?_
          refine V_iinc (pc := 39) (v := y4 + 1) (ls2 := [.ref w, .int y1, .int y2, .int (y3 ||| ((1 : Int32) <<< (y4 &&& 31))), .int (y4 + 1)]) X (th_da dtX2_below 25 rfl) rfl rfl (Nat.le_of_ble_eq_true rfl) rfl rfl ?_
          refine V_goto (pc := 42) (tgt := 5) X (th_da dtX2_below 26 rfl) (by decide) ?_
          exact ih _ _ _ _ _ hf
        · rw [if_neg c4] at hf
          refine V_iinc (pc := 39) (v := y4 + 1) (ls2 := [.ref w, .int y1, .int y2, .int y3, .int (y4 + 1)]) X (th_da dtX2_below 25 rfl) rfl rfl (Nat.le_of_ble_eq_true rfl) rfl rfl ?_
          refine V_goto (pc := 42) (tgt := 5) X (th_da dtX2_below 26 rfl) (by decide) ?_
          exact ih _ _ _ _ _ hf
    · rw [if_neg c1] at hf
      refine V_iload_n (pc := 45) X (th_da dtX2_below 27 rfl) rfl ?_
      exact V_iretF (pc := 46) X (th_da dtX2_below 28 rfl) hf
set_option maxHeartbeats 4000000 in
set_option maxRecDepth 100000 in
theorem mX2_below (l : Launch) (w : Nat) (p : Nat) (hw : isW w p) (x1 : Int32) (x2 : Int32) (h : th_H) (rr : Int32) (hh : th_H) (hf : fX2_below w p x1 x2 h = some (rr, hh)) : th_MI l LC yX2_below cX2_below 5 (some .int) 0 0 [.ref w, .int x1, .int x2] h (some (.int rr)) hh := by
  refine th_MI_of (ls := [.ref w, .int x1, .int x2, .null, .null]) RX2 rfl rfl rfl (Nat.le_of_ble_eq_true rfl) ?_
  intro p0 e s m args below meth c D cI cZ ad X
  unfold fX2_below at hf
  refine V_iconst (pc := 0) (v := 0) X (th_da dtX2_below 0 rfl) (by decide) ?_
  refine V_istore_n (pc := 1) (ls2 := [.ref w, .int x1, .int x2, .int 0, .null]) X (th_da dtX2_below 1 rfl) (Nat.le_of_ble_eq_true rfl) rfl rfl ?_
  refine V_iconst (pc := 2) (v := 0) X (th_da dtX2_below 2 rfl) (by decide) ?_
  refine V_istore (pc := 3) (ls2 := [.ref w, .int x1, .int x2, .int 0, .int 0]) X (th_da dtX2_below 3 rfl) (Nat.le_of_ble_eq_true rfl) rfl rfl ?_
  exact tX2_below_c5 X _ _ hw _ _ _ _ _ _ hf
end
def fX2_rankOf (w : Nat) (p : Nat) (x1 : Int32) (h : th_H) : Option (Int32 × th_H) :=
  th_rd h (w + 1) 20 x1 fun v1 =>
  th_bd (fX2_below w p (h.1 p 7) v1 h) fun u2 h2 =>
  th_rd h2 (w + 1) 20 x1 fun v3 =>
  th_bd (fX2_below w p (h2.1 p 7) (v3 + 1) h2) fun u4 h4 =>
  th_bd (fJ6_bitCount_0f7a4 (u2 ||| (u4 &&& (((1 : Int32) <<< (x1 &&& 31)) - 1))) h4) fun u5 h5 =>
  some (u5, h5)
def tbX2_rankOf : List (Nat × Instr × Nat) := [(0, .iconst 1, 1), (1, .iload_n 1, 1), (2, .ishl, 1), (3, .iconst 1, 1), (4, .isub, 1), (5, .istore_n 2, 1), (6, .aload_n 0, 1), (7, .aload_n 0, 1), (8, .getfield 37, 3), (11, .getfield 56, 3), (14, .aload_n 0, 1), (15, .getfield 9, 3), (18, .iload_n 1, 1), (19, .iaload, 1), (20, .invokevirtual 114, 3), (23, .istore_n 3, 1), (24, .aload_n 0, 1), (25, .aload_n 0, 1), (26, .getfield 37, 3), (29, .getfield 56, 3), (32, .aload_n 0, 1), (33, .getfield 9, 3), (36, .iload_n 1, 1), (37, .iaload, 1), (38, .iconst 1, 1), (39, .iadd, 1), (40, .invokevirtual 114, 3), (43, .istore 4, 2), (45, .iload_n 3, 1), (46, .iload 4, 2), (48, .iload_n 2, 1), (49, .iand, 1), (50, .ior, 1), (51, .invokestatic 117, 3), (54, .ireturn, 1)]
theorem dtX2_rankOf : th_dec cX2_rankOf tbX2_rankOf = true := by decide +kernel
section
variable {p0 : Program} {l : Launch} {e : Env} {s : State} {m : MethodId} {args : Array Value} {below : List Frame} {meth : Method} {c : Code} {D : va_G} {cI cZ : ClassId} {ad : Nat → Nat} {rr : Int32} {hh : th_H}
set_option maxHeartbeats 4000000 in
set_option maxRecDepth 100000 in
theorem mX2_rankOf (l : Launch) (w : Nat) (p : Nat) (hw : isW w p) (x1 : Int32) (h : th_H) (rr : Int32) (hh : th_H) (hf : fX2_rankOf w p x1 h = some (rr, hh)) : th_MI l LC yX2_rankOf cX2_rankOf 5 (some .int) 1 24 [.ref w, .int x1] h (some (.int rr)) hh := by
  refine th_MI_of (ls := [.ref w, .int x1, .null, .null, .null]) RX2 rfl rfl rfl (Nat.le_of_ble_eq_true rfl) ?_
  intro p0 e s m args below meth c D cI cZ ad X
  unfold fX2_rankOf at hf
  refine V_iconst (pc := 0) (v := 1) X (th_da dtX2_rankOf 0 rfl) (by decide) ?_
  refine V_iload_n (pc := 1) X (th_da dtX2_rankOf 1 rfl) rfl ?_
  refine V_ishl (pc := 2) X (th_da dtX2_rankOf 2 rfl) ?_
  refine V_iconst (pc := 3) (v := 1) X (th_da dtX2_rankOf 3 rfl) (by decide) ?_
  refine V_isub (pc := 4) X (th_da dtX2_rankOf 4 rfl) ?_
  refine V_istore_n (pc := 5) (ls2 := [.ref w, .int x1, .int (((1 : Int32) <<< (x1 &&& 31)) - 1), .null, .null]) X (th_da dtX2_rankOf 5 rfl) (Nat.le_of_ble_eq_true rfl) rfl rfl ?_
  refine V_aload_n (pc := 6) X (th_da dtX2_rankOf 6 rfl) rfl ?_
  refine V_aload_n (pc := 7) X (th_da dtX2_rankOf 7 rfl) rfl ?_
  refine V_getR (pc := 8) (j := 0) (t := p) X (th_da dtX2_rankOf 8 rfl) wfl_X2_37 iX2 rfl (W_0 hw) (Nat.le_of_ble_eq_true rfl) rfl ?_
  refine V_getI (pc := 11) (j := 7) X (th_da dtX2_rankOf 9 rfl) wfl_X2_56 iX0 rfl (P_0 (W_p hw)) (Nat.le_of_ble_eq_true rfl) rfl ?_
  refine V_aload_n (pc := 14) X (th_da dtX2_rankOf 10 rfl) rfl ?_
  refine V_getR (pc := 15) (j := 1) (t := (w + 1)) X (th_da dtX2_rankOf 11 rfl) wfl_X2_9 iX2 rfl (W_0 hw) (Nat.le_of_ble_eq_true rfl) rfl ?_
  refine V_iload_n (pc := 18) X (th_da dtX2_rankOf 12 rfl) rfl ?_
  obtain ⟨v1, e1, g1, hf⟩ := th_rd_some hf
  refine V_iald (pc := 19) X (th_da dtX2_rankOf 13 rfl) (W_1 hw) g1 e1 ?_
  obtain ⟨u2, h2, e2, hf⟩ := th_bd_some hf
  refine V_callVi (pc := 20) (q := w) (As := [.int (h.1 p 7), .int v1]) X (th_da dtX2_rankOf 14 rfl) (mX2_below l w p hw _ _ _ _ _ e2) wcd_X2_below wml_X2_114 wim_X2_below wse_X2_below win_X2_below hd_X2_below ⟨Nat.le_of_ble_eq_true rfl, Nat.le_of_ble_eq_true rfl⟩ (Nat.le_of_ble_eq_true rfl) rfl (W_0 hw) rfl ?_
  refine V_istore_n (pc := 23) (ls2 := [.ref w, .int x1, .int (((1 : Int32) <<< (x1 &&& 31)) - 1), .int u2, .null]) X (th_da dtX2_rankOf 15 rfl) (Nat.le_of_ble_eq_true rfl) rfl rfl ?_
  refine V_aload_n (pc := 24) X (th_da dtX2_rankOf 16 rfl) rfl ?_
  refine V_aload_n (pc := 25) X (th_da dtX2_rankOf 17 rfl) rfl ?_
  refine V_getR (pc := 26) (j := 0) (t := p) X (th_da dtX2_rankOf 18 rfl) wfl_X2_37 iX2 rfl (W_0 hw) (Nat.le_of_ble_eq_true rfl) rfl ?_
  refine V_getI (pc := 29) (j := 7) X (th_da dtX2_rankOf 19 rfl) wfl_X2_56 iX0 rfl (P_0 (W_p hw)) (Nat.le_of_ble_eq_true rfl) rfl ?_
  refine V_aload_n (pc := 32) X (th_da dtX2_rankOf 20 rfl) rfl ?_
  refine V_getR (pc := 33) (j := 1) (t := (w + 1)) X (th_da dtX2_rankOf 21 rfl) wfl_X2_9 iX2 rfl (W_0 hw) (Nat.le_of_ble_eq_true rfl) rfl ?_
  refine V_iload_n (pc := 36) X (th_da dtX2_rankOf 22 rfl) rfl ?_
  obtain ⟨v3, e3, g3, hf⟩ := th_rd_some hf
  refine V_iald (pc := 37) X (th_da dtX2_rankOf 23 rfl) (W_1 hw) g3 e3 ?_
  refine V_iconst (pc := 38) (v := 1) X (th_da dtX2_rankOf 24 rfl) (by decide) ?_
  refine V_iadd (pc := 39) X (th_da dtX2_rankOf 25 rfl) ?_
  obtain ⟨u4, h4, e4, hf⟩ := th_bd_some hf
  refine V_callVi (pc := 40) (q := w) (As := [.int (h2.1 p 7), .int (v3 + 1)]) X (th_da dtX2_rankOf 26 rfl) (mX2_below l w p hw _ _ _ _ _ e4) wcd_X2_below wml_X2_114 wim_X2_below wse_X2_below win_X2_below hd_X2_below ⟨Nat.le_of_ble_eq_true rfl, Nat.le_of_ble_eq_true rfl⟩ (Nat.le_of_ble_eq_true rfl) rfl (W_0 hw) rfl ?_
  refine V_istore (pc := 43) (ls2 := [.ref w, .int x1, .int (((1 : Int32) <<< (x1 &&& 31)) - 1), .int u2, .int u4]) X (th_da dtX2_rankOf 27 rfl) (Nat.le_of_ble_eq_true rfl) rfl rfl ?_
  refine V_iload_n (pc := 45) X (th_da dtX2_rankOf 28 rfl) rfl ?_
  refine V_iload (pc := 46) X (th_da dtX2_rankOf 29 rfl) rfl ?_
  refine V_iload_n (pc := 48) X (th_da dtX2_rankOf 30 rfl) rfl ?_
  refine V_iand (pc := 49) X (th_da dtX2_rankOf 31 rfl) ?_
  refine V_ior (pc := 50) X (th_da dtX2_rankOf 32 rfl) ?_
  obtain ⟨u5, h5, e5, hf⟩ := th_bd_some hf
  refine V_callSi (pc := 51) (As := [.int (u2 ||| (u4 &&& (((1 : Int32) <<< (x1 &&& 31)) - 1)))]) X (th_da dtX2_rankOf 33 rfl) (mJ6_bitCount_0f7a4 l _ _ _ _ e5) wcd_J6_bitCount_0f7a4 wml_X2_117 wst_J6_bitCount_0f7a4 win_J6_bitCount_0f7a4 hd_J6_bitCount_0f7a4 ⟨Nat.le_of_ble_eq_true rfl, Nat.le_of_ble_eq_true rfl⟩ (Nat.le_of_ble_eq_true rfl) rfl ?_
  exact V_iretF (pc := 54) X (th_da dtX2_rankOf 34 rfl) hf
end
def fX2_fullnessOf_c11 (w : Nat) (p : Nat) : Nat → Int32 → Int32 → Int32 → Int32 → th_H → Option (Int32 × th_H)
  | 0, _, _, _, _, _ => none
  | n + 1, y1, y2, y3, y4, h =>
    if (y4 < 10 : Prop) then
      th_rd h (p + 2) 10 y4 fun v2 =>
      if (v2 = 0 : Prop) then
        fX2_fullnessOf_c11 w p n y1 y2 y3 (y4 + 1) h
      else
        th_bd (fX2_leftOf w p y4 h) fun u4 h4 =>
        if (u4 < y2 : Prop) then
          fX2_fullnessOf_c11 w p n y1 y2 (y3 + 1) (y4 + 1) h4
        else
          if (u4 = y2 : Prop) then
            if (y4 < y1 : Prop) then
              fX2_fullnessOf_c11 w p n y1 y2 (y3 + 1) (y4 + 1) h4
            else
              fX2_fullnessOf_c11 w p n y1 y2 (y3 + 0) (y4 + 1) h4
          else
            fX2_fullnessOf_c11 w p n y1 y2 (y3 + 0) (y4 + 1) h4
    else
      some (y3, h)
def fX2_fullnessOf (w : Nat) (p : Nat) (x1 : Int32) (h : th_H) : Option (Int32 × th_H) :=
  th_bd (fX2_leftOf w p x1 h) fun u1 h1 =>
  fX2_fullnessOf_c11 w p 1000 x1 u1 0 0 h1
def tbX2_fullnessOf : List (Nat × Instr × Nat) := [(0, .aload_n 0, 1), (1, .iload_n 1, 1), (2, .invokevirtual 120, 3), (5, .istore_n 2, 1), (6, .iconst 0, 1), (7, .istore_n 3, 1), (8, .iconst 0, 1), (9, .istore 4, 2), (11, .iload 4, 2), (13, .bipush 10, 2), (15, .if_icmp .ge 56, 3), (18, .aload_n 0, 1), (19, .getfield 37, 3), (22, .getfield 74, 3), (25, .iload 4, 2), (27, .iaload, 1), (28, .ifCond .eq 37, 3), (31, .aload_n 0, 1), (32, .iload 4, 2), (34, .invokevirtual 120, 3), (37, .istore 5, 2), (39, .iload_n 3, 1), (40, .iload 5, 2), (42, .iload_n 2, 1), (43, .if_icmp .lt 15, 3), (46, .iload 5, 2), (48, .iload_n 2, 1), (49, .if_icmp .ne 13, 3), (52, .iload 4, 2), (54, .iload_n 1, 1), (55, .if_icmp .ge 7, 3), (58, .iconst 1, 1), (59, .goto 4, 3), (62, .iconst 0, 1), (63, .iadd, 1), (64, .istore_n 3, 1), (65, .iinc 4 1, 3), (68, .goto (-57), 3), (71, .iload_n 3, 1), (72, .ireturn, 1)]
theorem dtX2_fullnessOf : th_dec cX2_fullnessOf tbX2_fullnessOf = true := by decide +kernel
section
variable {p0 : Program} {l : Launch} {e : Env} {s : State} {m : MethodId} {args : Array Value} {below : List Frame} {meth : Method} {c : Code} {D : va_G} {cI cZ : ClassId} {ad : Nat → Nat} {rr : Int32} {hh : th_H}
set_option maxHeartbeats 4000000 in
set_option maxRecDepth 100000 in
theorem tX2_fullnessOf_c11 (X : th_X p0 s m args meth c D cI cZ ad LC 6 RX2 cX2_fullnessOf (some .int)) (w : Nat) (p : Nat) (hw : isW w p) : ∀ (n : Nat) (y1 : Int32) (y2 : Int32) (y3 : Int32) (y4 : Int32) (h : th_H), fX2_fullnessOf_c11 w p n y1 y2 y3 y4 h = some (rr, hh) → th_V p0 l e { frames := 4, cells := 0, slots := 0, locals := 87 } s m args below meth c D cI cZ ad LC 6 (some (.int rr)) hh 11 [.ref w, .int y1, .int y2, .int y3, .int y4, .null] [] h := by
  intro n
  induction n with
  | zero => intro y1 y2 y3 y4 h hf; cases hf
  | succ n ih =>
    intro y1 y2 y3 y4 h hf
    rw [fX2_fullnessOf_c11] at hf
    refine V_iload (pc := 11) X (th_da dtX2_fullnessOf 8 rfl) rfl ?_
    refine V_bipush (pc := 13) (v := 10) X (th_da dtX2_fullnessOf 9 rfl) (by decide) ?_
    refine V_icmp_ge (pc := 15) (tgt := 71) X (th_da dtX2_fullnessOf 10 rfl) (by decide) (fun c1 => ?_) (fun c1 => ?_)
    · rw [if_pos c1] at hf
      refine V_aload_n (pc := 18) X (th_da dtX2_fullnessOf 11 rfl) rfl ?_
      refine V_getR (pc := 19) (j := 0) (t := p) X (th_da dtX2_fullnessOf 12 rfl) wfl_X2_37 iX2 rfl (W_0 hw) (Nat.le_of_ble_eq_true rfl) rfl ?_
      refine V_getR (pc := 22) (j := 1) (t := (p + 2)) X (th_da dtX2_fullnessOf 13 rfl) wfl_X2_74 iX0 rfl (P_0 (W_p hw)) (Nat.le_of_ble_eq_true rfl) rfl ?_
      refine V_iload (pc := 25) X (th_da dtX2_fullnessOf 14 rfl) rfl ?_
      obtain ⟨v2, e2, g2, hf⟩ := th_rd_some hf
      refine V_iald (pc := 27) X (th_da dtX2_fullnessOf 15 rfl) (P_2 (W_p hw)) g2 e2 ?_
      refine V_if_eq (pc := 28) (tgt := 65) X (th_da dtX2_fullnessOf 16 rfl) (by decide) (fun c3 => ?_) (fun c3 => ?_)
      · rw [if_pos c3] at hf
        refine V_iinc (pc := 65) (v := y4 + 1) (ls2 := [.ref w, .int y1, .int y2, .int y3, .int (y4 + 1), .null]) X (th_da dtX2_fullnessOf 36 rfl) rfl rfl (Nat.le_of_ble_eq_true rfl) rfl rfl ?_
        refine V_goto (pc := 68) (tgt := 11) X (th_da dtX2_fullnessOf 37 rfl) (by decide) ?_
        exact ih _ _ _ _ _ hf
      · rw [if_neg c3] at hf
        refine V_aload_n (pc := 31) X (th_da dtX2_fullnessOf 17 rfl) rfl ?_
        refine V_iload (pc := 32) X (th_da dtX2_fullnessOf 18 rfl) rfl ?_
        obtain ⟨u4, h4, e4, hf⟩ := th_bd_some hf
        refine V_callVi (pc := 34) (q := w) (As := [.int y4]) X (th_da dtX2_fullnessOf 19 rfl) (mX2_leftOf l w p hw _ _ _ _ e4) wcd_X2_leftOf wml_X2_120 wim_X2_leftOf wse_X2_leftOf win_X2_leftOf hd_X2_leftOf ⟨Nat.le_of_ble_eq_true rfl, Nat.le_of_ble_eq_true rfl⟩ (Nat.le_of_ble_eq_true rfl) rfl (W_0 hw) rfl ?_
        refine V_istore (pc := 37) (ls2 := [.ref w, .int y1, .int y2, .int y3, .int y4, .int u4]) X (th_da dtX2_fullnessOf 20 rfl) (Nat.le_of_ble_eq_true rfl) rfl rfl ?_
        refine V_iload_n (pc := 39) X (th_da dtX2_fullnessOf 21 rfl) rfl ?_
        refine V_iload (pc := 40) X (th_da dtX2_fullnessOf 22 rfl) rfl ?_
        refine V_iload_n (pc := 42) X (th_da dtX2_fullnessOf 23 rfl) rfl ?_
        refine V_icmp_lt (pc := 43) (tgt := 58) X (th_da dtX2_fullnessOf 24 rfl) (by decide) (fun c5 => ?_) (fun c5 => ?_)
        · rw [if_pos c5] at hf
          refine V_iconst (pc := 58) (v := 1) X (th_da dtX2_fullnessOf 31 rfl) (by decide) ?_
          refine V_goto (pc := 59) (tgt := 63) X (th_da dtX2_fullnessOf 32 rfl) (by decide) ?_
          refine V_iadd (pc := 63) X (th_da dtX2_fullnessOf 34 rfl) ?_
          refine V_istore_n (pc := 64) (ls2 := [.ref w, .int y1, .int y2, .int (y3 + 1), .int y4, .int u4]) X (th_da dtX2_fullnessOf 35 rfl) (Nat.le_of_ble_eq_true rfl) rfl rfl ?_
          refine V_iinc (pc := 65) (v := y4 + 1) (ls2 := [.ref w, .int y1, .int y2, .int (y3 + 1), .int (y4 + 1), .int u4]) X (th_da dtX2_fullnessOf 36 rfl) rfl rfl (Nat.le_of_ble_eq_true rfl) rfl rfl ?_
          refine V_goto (pc := 68) (tgt := 11) X (th_da dtX2_fullnessOf 37 rfl) (by decide) ?_
          refine V_mask [true, true, true, true, true, false] (ls2 := [.ref w, .int y1, .int y2, .int (y3 + 1), .int (y4 + 1), .null]) rfl ?_
          exact ih _ _ _ _ _ hf
        · rw [if_neg c5] at hf
          refine V_iload (pc := 46) X (th_da dtX2_fullnessOf 25 rfl) rfl ?_
          refine V_iload_n (pc := 48) X (th_da dtX2_fullnessOf 26 rfl) rfl ?_
          refine V_icmp_ne (pc := 49) (tgt := 62) X (th_da dtX2_fullnessOf 27 rfl) (by decide) (fun c6 => ?_) (fun c6 => ?_)
          · rw [if_pos c6] at hf
            refine V_iload (pc := 52) X (th_da dtX2_fullnessOf 28 rfl) rfl ?_
            refine V_iload_n (pc := 54) X (th_da dtX2_fullnessOf 29 rfl) rfl ?_
            refine V_icmp_ge (pc := 55) (tgt := 62) X (th_da dtX2_fullnessOf 30 rfl) (by decide) (fun c7 => ?_) (fun c7 => ?_)
            · rw [if_pos c7] at hf
              refine V_iconst (pc := 58) (v := 1) X (th_da dtX2_fullnessOf 31 rfl) (by decide) ?_
              refine V_goto (pc := 59) (tgt := 63) X (th_da dtX2_fullnessOf 32 rfl) (by decide) ?_
              refine V_iadd (pc := 63) X (th_da dtX2_fullnessOf 34 rfl) ?_
              refine V_istore_n (pc := 64) (ls2 := [.ref w, .int y1, .int y2, .int (y3 + 1), .int y4, .int u4]) X (th_da dtX2_fullnessOf 35 rfl) (Nat.le_of_ble_eq_true rfl) rfl rfl ?_
              refine V_iinc (pc := 65) (v := y4 + 1) (ls2 := [.ref w, .int y1, .int y2, .int (y3 + 1), .int (y4 + 1), .int u4]) X (th_da dtX2_fullnessOf 36 rfl) rfl rfl (Nat.le_of_ble_eq_true rfl) rfl rfl ?_
              refine V_goto (pc := 68) (tgt := 11) X (th_da dtX2_fullnessOf 37 rfl) (by decide) ?_
              refine V_mask [true, true, true, true, true, false] (ls2 := [.ref w, .int y1, .int y2, .int (y3 + 1), .int (y4 + 1), .null]) rfl ?_
              exact ih _ _ _ _ _ hf
            · rw [if_neg c7] at hf
              refine V_iconst (pc := 62) (v := 0) X (th_da dtX2_fullnessOf 33 rfl) (by decide) ?_
              refine V_iadd (pc := 63) X (th_da dtX2_fullnessOf 34 rfl) ?_
              refine V_istore_n (pc := 64) (ls2 := [.ref w, .int y1, .int y2, .int (y3 + 0), .int y4, .int u4]) X (th_da dtX2_fullnessOf 35 rfl) (Nat.le_of_ble_eq_true rfl) rfl rfl ?_
              refine V_iinc (pc := 65) (v := y4 + 1) (ls2 := [.ref w, .int y1, .int y2, .int (y3 + 0), .int (y4 + 1), .int u4]) X (th_da dtX2_fullnessOf 36 rfl) rfl rfl (Nat.le_of_ble_eq_true rfl) rfl rfl ?_
              refine V_goto (pc := 68) (tgt := 11) X (th_da dtX2_fullnessOf 37 rfl) (by decide) ?_
              refine V_mask [true, true, true, true, true, false] (ls2 := [.ref w, .int y1, .int y2, .int (y3 + 0), .int (y4 + 1), .null]) rfl ?_
              exact ih _ _ _ _ _ hf
          · rw [if_neg c6] at hf
            refine V_iconst (pc := 62) (v := 0) X (th_da dtX2_fullnessOf 33 rfl) (by decide) ?_
            refine V_iadd (pc := 63) X (th_da dtX2_fullnessOf 34 rfl) ?_
            refine V_istore_n (pc := 64) (ls2 := [.ref w, .int y1, .int y2, .int (y3 + 0), .int y4, .int u4]) X (th_da dtX2_fullnessOf 35 rfl) (Nat.le_of_ble_eq_true rfl) rfl rfl ?_
            refine V_iinc (pc := 65) (v := y4 + 1) (ls2 := [.ref w, .int y1, .int y2, .int (y3 + 0), .int (y4 + 1), .int u4]) X (th_da dtX2_fullnessOf 36 rfl) rfl rfl (Nat.le_of_ble_eq_true rfl) rfl rfl ?_
            refine V_goto (pc := 68) (tgt := 11) X (th_da dtX2_fullnessOf 37 rfl) (by decide) ?_
            refine V_mask [true, true, true, true, true, false] (ls2 := [.ref w, .int y1, .int y2, .int (y3 + 0), .int (y4 + 1), .null]) rfl ?_
            exact ih _ _ _ _ _ hf
    · rw [if_neg c1] at hf
      refine V_iload_n (pc := 71) X (th_da dtX2_fullnessOf 38 rfl) rfl ?_
      exact V_iretF (pc := 72) X (th_da dtX2_fullnessOf 39 rfl) hf
set_option maxHeartbeats 4000000 in
set_option maxRecDepth 100000 in
theorem mX2_fullnessOf (l : Launch) (w : Nat) (p : Nat) (hw : isW w p) (x1 : Int32) (h : th_H) (rr : Int32) (hh : th_H) (hf : fX2_fullnessOf w p x1 h = some (rr, hh)) : th_MI l LC yX2_fullnessOf cX2_fullnessOf 6 (some .int) 4 87 [.ref w, .int x1] h (some (.int rr)) hh := by
  refine th_MI_of (ls := [.ref w, .int x1, .null, .null, .null, .null]) RX2 rfl rfl rfl (Nat.le_of_ble_eq_true rfl) ?_
  intro p0 e s m args below meth c D cI cZ ad X
  unfold fX2_fullnessOf at hf
  refine V_aload_n (pc := 0) X (th_da dtX2_fullnessOf 0 rfl) rfl ?_
  refine V_iload_n (pc := 1) X (th_da dtX2_fullnessOf 1 rfl) rfl ?_
  obtain ⟨u1, h1, e1, hf⟩ := th_bd_some hf
  refine V_callVi (pc := 2) (q := w) (As := [.int x1]) X (th_da dtX2_fullnessOf 2 rfl) (mX2_leftOf l w p hw _ _ _ _ e1) wcd_X2_leftOf wml_X2_120 wim_X2_leftOf wse_X2_leftOf win_X2_leftOf hd_X2_leftOf ⟨Nat.le_of_ble_eq_true rfl, Nat.le_of_ble_eq_true rfl⟩ (Nat.le_of_ble_eq_true rfl) rfl (W_0 hw) rfl ?_
  refine V_istore_n (pc := 5) (ls2 := [.ref w, .int x1, .int u1, .null, .null, .null]) X (th_da dtX2_fullnessOf 3 rfl) (Nat.le_of_ble_eq_true rfl) rfl rfl ?_
  refine V_iconst (pc := 6) (v := 0) X (th_da dtX2_fullnessOf 4 rfl) (by decide) ?_
  refine V_istore_n (pc := 7) (ls2 := [.ref w, .int x1, .int u1, .int 0, .null, .null]) X (th_da dtX2_fullnessOf 5 rfl) (Nat.le_of_ble_eq_true rfl) rfl rfl ?_
  refine V_iconst (pc := 8) (v := 0) X (th_da dtX2_fullnessOf 6 rfl) (by decide) ?_
  refine V_istore (pc := 9) (ls2 := [.ref w, .int x1, .int u1, .int 0, .int 0, .null]) X (th_da dtX2_fullnessOf 7 rfl) (Nat.le_of_ble_eq_true rfl) rfl rfl ?_
  exact tX2_fullnessOf_c11 X _ _ hw _ _ _ _ _ _ hf
end
