def fX0_boundOf_c4 (p : Nat) : Nat → Int32 → Int32 → Int32 → th_H → Option (Int32 × th_H)
  | 0, _, _, _, _ => none
  | n + 1, y1, y2, y3, h =>
    if (y3 < 20 : Prop) then
      th_rd h (p + 2) 10 y1 fun v2 =>
      if (((v2 >>> (y3 &&& 31)) &&& 1) = 0 : Prop) then
        fX0_boundOf_c4 p n y1 y2 (y3 + 1) h
      else
        th_rd h (p + 6) 20 y3 fun v4 =>
        fX0_boundOf_c4 p n y1 (y2 + v4) (y3 + 1) h
    else
      some (y2, h)
def fX0_boundOf (p : Nat) (x1 : Int32) (h : th_H) : Option (Int32 × th_H) :=
  fX0_boundOf_c4 p 1000 x1 0 0 h
def tbX0_boundOf : List (Nat × Instr × Nat) := [(0, .iconst 0, 1), (1, .istore_n 2, 1), (2, .iconst 0, 1), (3, .istore_n 3, 1), (4, .iload_n 3, 1), (5, .bipush 20, 2), (7, .if_icmp .ge 31, 3), (10, .aload_n 0, 1), (11, .getfield 15, 3), (14, .iload_n 1, 1), (15, .iaload, 1), (16, .iload_n 3, 1), (17, .ishr, 1), (18, .iconst 1, 1), (19, .iand, 1), (20, .ifCond .eq 12, 3), (23, .iload_n 2, 1), (24, .aload_n 0, 1), (25, .getfield 27, 3), (28, .iload_n 3, 1), (29, .iaload, 1), (30, .iadd, 1), (31, .istore_n 2, 1), (32, .iinc 3 1, 3), (35, .goto (-31), 3), (38, .iload_n 2, 1), (39, .ireturn, 1)]
theorem dtX0_boundOf : th_dec cX0_boundOf tbX0_boundOf = true := by decide +kernel
section
variable {p0 : Program} {l : Launch} {e : Env} {s : State} {m : MethodId} {args : Array Value} {below : List Frame} {meth : Method} {c : Code} {D : va_G} {cI cZ : ClassId} {ad : Nat → Nat} {rr : Int32} {hh : th_H}
set_option maxHeartbeats 4000000 in
set_option maxRecDepth 100000 in
theorem tX0_boundOf_c4 (X : th_X p0 s m args meth c D cI cZ ad LC 4 RX0 cX0_boundOf (some .int)) (p : Nat) (hp : isP p) : ∀ (n : Nat) (y1 : Int32) (y2 : Int32) (y3 : Int32) (h : th_H), fX0_boundOf_c4 p n y1 y2 y3 h = some (rr, hh) → th_V p0 l e { frames := 0, cells := 0, slots := 0, locals := 0 } s m args below meth c D cI cZ ad LC 4 (some (.int rr)) hh 4 [.ref p, .int y1, .int y2, .int y3] [] h := by
  intro n
  induction n with
  | zero => intro y1 y2 y3 h hf; cases hf
  | succ n ih =>
    intro y1 y2 y3 h hf
    rw [fX0_boundOf_c4] at hf
    refine V_iload_n (pc := 4) X (th_da dtX0_boundOf 4 rfl) rfl ?_
    refine V_bipush (pc := 5) (v := 20) X (th_da dtX0_boundOf 5 rfl) (by decide) ?_
    refine V_icmp_ge (pc := 7) (tgt := 38) X (th_da dtX0_boundOf 6 rfl) (by decide) (fun c1 => ?_) (fun c1 => ?_)
    · rw [if_pos c1] at hf
      refine V_aload_n (pc := 10) X (th_da dtX0_boundOf 7 rfl) rfl ?_
      refine V_getR (pc := 11) (j := 1) (t := (p + 2)) X (th_da dtX0_boundOf 8 rfl) wfl_X0_15 iX0 rfl (P_0 hp) (Nat.le_of_ble_eq_true rfl) rfl ?_
      refine V_iload_n (pc := 14) X (th_da dtX0_boundOf 9 rfl) rfl ?_
      obtain ⟨v2, e2, g2, hf⟩ := th_rd_some hf
      refine V_iald (pc := 15) X (th_da dtX0_boundOf 10 rfl) (P_2 hp) g2 e2 ?_
      refine V_iload_n (pc := 16) X (th_da dtX0_boundOf 11 rfl) rfl ?_
      refine V_ishr (pc := 17) X (th_da dtX0_boundOf 12 rfl) ?_
      refine V_iconst (pc := 18) (v := 1) X (th_da dtX0_boundOf 13 rfl) (by decide) ?_
      refine V_iand (pc := 19) X (th_da dtX0_boundOf 14 rfl) ?_
      refine V_if_eq (pc := 20) (tgt := 32) X (th_da dtX0_boundOf 15 rfl) (by decide) (fun c3 => ?_) (fun c3 => ?_)
      · rw [if_pos c3] at hf
        refine V_iinc (pc := 32) (v := y3 + 1) (ls2 := [.ref p, .int y1, .int y2, .int (y3 + 1)]) X (th_da dtX0_boundOf 23 rfl) rfl rfl (Nat.le_of_ble_eq_true rfl) rfl rfl ?_
        refine V_goto (pc := 35) (tgt := 4) X (th_da dtX0_boundOf 24 rfl) (by decide) ?_
        exact ih _ _ _ _ hf
      · rw [if_neg c3] at hf
        refine V_iload_n (pc := 23) X (th_da dtX0_boundOf 16 rfl) rfl ?_
        refine V_aload_n (pc := 24) X (th_da dtX0_boundOf 17 rfl) rfl ?_
        refine V_getR (pc := 25) (j := 5) (t := (p + 6)) X (th_da dtX0_boundOf 18 rfl) wfl_X0_27 iX0 rfl (P_0 hp) (Nat.le_of_ble_eq_true rfl) rfl ?_
        refine V_iload_n (pc := 28) X (th_da dtX0_boundOf 19 rfl) rfl ?_
        obtain ⟨v4, e4, g4, hf⟩ := th_rd_some hf
        refine V_iald (pc := 29) X (th_da dtX0_boundOf 20 rfl) (P_6 hp) g4 e4 ?_
        refine V_iadd (pc := 30) X (th_da dtX0_boundOf 21 rfl) ?_
        refine V_istore_n (pc := 31) (ls2 := [.ref p, .int y1, .int (y2 + v4), .int y3]) X (th_da dtX0_boundOf 22 rfl) (Nat.le_of_ble_eq_true rfl) rfl rfl ?_
        refine V_iinc (pc := 32) (v := y3 + 1) (ls2 := [.ref p, .int y1, .int (y2 + v4), .int (y3 + 1)]) X (th_da dtX0_boundOf 23 rfl) rfl rfl (Nat.le_of_ble_eq_true rfl) rfl rfl ?_
        refine V_goto (pc := 35) (tgt := 4) X (th_da dtX0_boundOf 24 rfl) (by decide) ?_
        exact ih _ _ _ _ hf
    · rw [if_neg c1] at hf
      refine V_iload_n (pc := 38) X (th_da dtX0_boundOf 25 rfl) rfl ?_
      exact V_iretF (pc := 39) X (th_da dtX0_boundOf 26 rfl) hf
set_option maxHeartbeats 4000000 in
set_option maxRecDepth 100000 in
theorem mX0_boundOf (l : Launch) (p : Nat) (hp : isP p) (x1 : Int32) (h : th_H) (rr : Int32) (hh : th_H) (hf : fX0_boundOf p x1 h = some (rr, hh)) : th_MI l LC yX0_boundOf cX0_boundOf 4 (some .int) 0 0 [.ref p, .int x1] h (some (.int rr)) hh := by
  refine th_MI_of (ls := [.ref p, .int x1, .null, .null]) RX0 rfl rfl rfl (Nat.le_of_ble_eq_true rfl) ?_
  intro p0 e s m args below meth c D cI cZ ad X
  unfold fX0_boundOf at hf
  refine V_iconst (pc := 0) (v := 0) X (th_da dtX0_boundOf 0 rfl) (by decide) ?_
  refine V_istore_n (pc := 1) (ls2 := [.ref p, .int x1, .int 0, .null]) X (th_da dtX0_boundOf 1 rfl) (Nat.le_of_ble_eq_true rfl) rfl rfl ?_
  refine V_iconst (pc := 2) (v := 0) X (th_da dtX0_boundOf 2 rfl) (by decide) ?_
  refine V_istore_n (pc := 3) (ls2 := [.ref p, .int x1, .int 0, .int 0]) X (th_da dtX0_boundOf 3 rfl) (Nat.le_of_ble_eq_true rfl) rfl rfl ?_
  exact tX0_boundOf_c4 X _ hp _ _ _ _ _ hf
end
def fX0_setCapacity (p : Nat) (x1 : Int32) (x2 : Int32) (h : th_H) : Option (Unit × th_H) :=
  th_wr h (p + 1) 10 x1 x2 fun h1 =>
  th_st (th_up h1 p 8 ((h1.1 p 8) + 1)) fun h2 =>
  some ((), h2)
def tbX0_setCapacity : List (Nat × Instr × Nat) := [(0, .aload_n 0, 1), (1, .getfield 9, 3), (4, .iload_n 1, 1), (5, .iload_n 2, 1), (6, .iastore, 1), (7, .aload_n 0, 1), (8, .dup, 1), (9, .getfield 43, 3), (12, .iconst 1, 1), (13, .iadd, 1), (14, .putfield 43, 3), (17, .return_, 1)]
theorem dtX0_setCapacity : th_dec cX0_setCapacity tbX0_setCapacity = true := by decide +kernel
section
variable {p0 : Program} {l : Launch} {e : Env} {s : State} {m : MethodId} {args : Array Value} {below : List Frame} {meth : Method} {c : Code} {D : va_G} {cI cZ : ClassId} {ad : Nat → Nat} {rr : Unit} {hh : th_H}
set_option maxHeartbeats 4000000 in
set_option maxRecDepth 100000 in
theorem mX0_setCapacity (l : Launch) (p : Nat) (hp : isP p) (x1 : Int32) (x2 : Int32) (h : th_H) (rr : Unit) (hh : th_H) (hf : fX0_setCapacity p x1 x2 h = some (rr, hh)) : th_MI l LC yX0_setCapacity cX0_setCapacity 3 none 0 0 [.ref p, .int x1, .int x2] h none hh := by
  refine th_MI_of (ls := [.ref p, .int x1, .int x2]) RX0 rfl rfl rfl (Nat.le_of_ble_eq_true rfl) ?_
  intro p0 e s m args below meth c D cI cZ ad X
  unfold fX0_setCapacity at hf
  refine V_aload_n (pc := 0) X (th_da dtX0_setCapacity 0 rfl) rfl ?_
  refine V_getR (pc := 1) (j := 0) (t := (p + 1)) X (th_da dtX0_setCapacity 1 rfl) wfl_X0_9 iX0 rfl (P_0 hp) (Nat.le_of_ble_eq_true rfl) rfl ?_
  refine V_iload_n (pc := 4) X (th_da dtX0_setCapacity 2 rfl) rfl ?_
  refine V_iload_n (pc := 5) X (th_da dtX0_setCapacity 3 rfl) rfl ?_
  obtain ⟨h1, e1, g1, hf⟩ := th_wr_some hf
  refine V_iast (pc := 6) X (th_da dtX0_setCapacity 4 rfl) (P_1 hp) g1 e1 ?_
  refine V_aload_n (pc := 7) X (th_da dtX0_setCapacity 5 rfl) rfl ?_
  refine V_dup (pc := 8) X (th_da dtX0_setCapacity 6 rfl) rfl ?_
  refine V_getI (pc := 9) (j := 8) X (th_da dtX0_setCapacity 7 rfl) wfl_X0_43 iX0 rfl (P_0 hp) (Nat.le_of_ble_eq_true rfl) rfl ?_
  refine V_iconst (pc := 12) (v := 1) X (th_da dtX0_setCapacity 8 rfl) (by decide) ?_
  refine V_iadd (pc := 13) X (th_da dtX0_setCapacity 9 rfl) ?_
  obtain ⟨h2, e2, hf⟩ := th_st_some hf
  refine V_putI (pc := 14) (j := 8) (ty := .int) X (th_da dtX0_setCapacity 10 rfl) wfl_X0_43 iX0 rfl (P_0 hp) (Nat.le_of_ble_eq_true rfl) rfl tyX0 tyX0_ok nmX0 rfl (tyX0_ok 8 (Nat.le_of_ble_eq_true rfl)) rfl rfl e2 ?_
  exact V_vretF (pc := 17) X (th_da dtX0_setCapacity 11 rfl) hf
end
def fX0_has (p : Nat) (x1 : Int32) (h : th_H) : Option (Int32 × th_H) :=
  if (x1 < 0 : Prop) then
    some (0, h)
  else
    if (x1 < 20 : Prop) then
      if ((((h.1 p 7) >>> (x1 &&& 31)) &&& 1) = 0 : Prop) then
        some (0, h)
      else
        some (1, h)
    else
      some (0, h)
def tbX0_has : List (Nat × Instr × Nat) := [(0, .iload_n 1, 1), (1, .ifCond .lt 24, 3), (4, .iload_n 1, 1), (5, .bipush 20, 2), (7, .if_icmp .ge 18, 3), (10, .aload_n 0, 1), (11, .getfield 39, 3), (14, .iload_n 1, 1), (15, .ishr, 1), (16, .iconst 1, 1), (17, .iand, 1), (18, .ifCond .eq 7, 3), (21, .iconst 1, 1), (22, .goto 4, 3), (25, .iconst 0, 1), (26, .ireturn, 1)]
theorem dtX0_has : th_dec cX0_has tbX0_has = true := by decide +kernel
section
variable {p0 : Program} {l : Launch} {e : Env} {s : State} {m : MethodId} {args : Array Value} {below : List Frame} {meth : Method} {c : Code} {D : va_G} {cI cZ : ClassId} {ad : Nat → Nat} {rr : Int32} {hh : th_H}
set_option maxHeartbeats 4000000 in
set_option maxRecDepth 100000 in
theorem mX0_has (l : Launch) (p : Nat) (hp : isP p) (x1 : Int32) (h : th_H) (rr : Int32) (hh : th_H) (hf : fX0_has p x1 h = some (rr, hh)) : th_MI l LC yX0_has cX0_has 2 (some .boolean) 0 0 [.ref p, .int x1] h (some (.int rr)) hh := by
  refine th_MI_of (ls := [.ref p, .int x1]) RX0 rfl rfl rfl (Nat.le_of_ble_eq_true rfl) ?_
  intro p0 e s m args below meth c D cI cZ ad X
  unfold fX0_has at hf
  refine V_iload_n (pc := 0) X (th_da dtX0_has 0 rfl) rfl ?_
  refine V_if_lt (pc := 1) (tgt := 25) X (th_da dtX0_has 1 rfl) (by decide) (fun c1 => ?_) (fun c1 => ?_)
  · rw [if_pos c1] at hf
    refine V_iconst (pc := 25) (v := 0) X (th_da dtX0_has 14 rfl) (by decide) ?_
    exact V_zretF (pc := 26) X (th_da dtX0_has 15 rfl) (Or.inl rfl) hf
  · rw [if_neg c1] at hf
    refine V_iload_n (pc := 4) X (th_da dtX0_has 2 rfl) rfl ?_
    refine V_bipush (pc := 5) (v := 20) X (th_da dtX0_has 3 rfl) (by decide) ?_
    refine V_icmp_ge (pc := 7) (tgt := 25) X (th_da dtX0_has 4 rfl) (by decide) (fun c2 => ?_) (fun c2 => ?_)
    · rw [if_pos c2] at hf
      refine V_aload_n (pc := 10) X (th_da dtX0_has 5 rfl) rfl ?_
      refine V_getI (pc := 11) (j := 7) X (th_da dtX0_has 6 rfl) wfl_X0_39 iX0 rfl (P_0 hp) (Nat.le_of_ble_eq_true rfl) rfl ?_
      refine V_iload_n (pc := 14) X (th_da dtX0_has 7 rfl) rfl ?_
      refine V_ishr (pc := 15) X (th_da dtX0_has 8 rfl) ?_
      refine V_iconst (pc := 16) (v := 1) X (th_da dtX0_has 9 rfl) (by decide) ?_
      refine V_iand (pc := 17) X (th_da dtX0_has 10 rfl) ?_
      refine V_if_eq (pc := 18) (tgt := 25) X (th_da dtX0_has 11 rfl) (by decide) (fun c3 => ?_) (fun c3 => ?_)
      · rw [if_pos c3] at hf
        refine V_iconst (pc := 25) (v := 0) X (th_da dtX0_has 14 rfl) (by decide) ?_
        exact V_zretF (pc := 26) X (th_da dtX0_has 15 rfl) (Or.inl rfl) hf
      · rw [if_neg c3] at hf
        refine V_iconst (pc := 21) (v := 1) X (th_da dtX0_has 12 rfl) (by decide) ?_
        refine V_goto (pc := 22) (tgt := 26) X (th_da dtX0_has 13 rfl) (by decide) ?_
        exact V_zretF (pc := 26) X (th_da dtX0_has 15 rfl) (Or.inr rfl) hf
    · rw [if_neg c2] at hf
      refine V_iconst (pc := 25) (v := 0) X (th_da dtX0_has 14 rfl) (by decide) ?_
      exact V_zretF (pc := 26) X (th_da dtX0_has 15 rfl) (Or.inl rfl) hf
end
def fX0_freeNumber_c2 (p : Nat) : Nat → Int32 → th_H → Option (Int32 × th_H)
  | 0, _, _ => none
  | n + 1, y1, h =>
    if (y1 < 20 : Prop) then
      th_bd (fX0_has p y1 h) fun u2 h2 =>
      if (u2 = 0 : Prop) then
        some (y1, h2)
      else
        fX0_freeNumber_c2 p n (y1 + 1) h2
    else
      some ((-1), h)
def fX0_freeNumber (p : Nat) (h : th_H) : Option (Int32 × th_H) :=
  fX0_freeNumber_c2 p 1000 0 h
def tbX0_freeNumber : List (Nat × Instr × Nat) := [(0, .iconst 0, 1), (1, .istore_n 1, 1), (2, .iload_n 1, 1), (3, .bipush 20, 2), (5, .if_icmp .ge 19, 3), (8, .aload_n 0, 1), (9, .iload_n 1, 1), (10, .invokevirtual 46, 3), (13, .ifCond .ne 5, 3), (16, .iload_n 1, 1), (17, .ireturn, 1), (18, .iinc 1 1, 3), (21, .goto (-19), 3), (24, .iconst (-1), 1), (25, .ireturn, 1)]
theorem dtX0_freeNumber : th_dec cX0_freeNumber tbX0_freeNumber = true := by decide +kernel
section
variable {p0 : Program} {l : Launch} {e : Env} {s : State} {m : MethodId} {args : Array Value} {below : List Frame} {meth : Method} {c : Code} {D : va_G} {cI cZ : ClassId} {ad : Nat → Nat} {rr : Int32} {hh : th_H}
set_option maxHeartbeats 4000000 in
set_option maxRecDepth 100000 in
theorem tX0_freeNumber_c2 (X : th_X p0 s m args meth c D cI cZ ad LC 2 RX0 cX0_freeNumber (some .int)) (p : Nat) (hp : isP p) : ∀ (n : Nat) (y1 : Int32) (h : th_H), fX0_freeNumber_c2 p n y1 h = some (rr, hh) → th_V p0 l e { frames := 1, cells := 0, slots := 0, locals := 21 } s m args below meth c D cI cZ ad LC 2 (some (.int rr)) hh 2 [.ref p, .int y1] [] h := by
  intro n
  induction n with
  | zero => intro y1 h hf; cases hf
  | succ n ih =>
    intro y1 h hf
    rw [fX0_freeNumber_c2] at hf
    refine V_iload_n (pc := 2) X (th_da dtX0_freeNumber 2 rfl) rfl ?_
    refine V_bipush (pc := 3) (v := 20) X (th_da dtX0_freeNumber 3 rfl) (by decide) ?_
    refine V_icmp_ge (pc := 5) (tgt := 24) X (th_da dtX0_freeNumber 4 rfl) (by decide) (fun c1 => ?_) (fun c1 => ?_)
    · rw [if_pos c1] at hf
      refine V_aload_n (pc := 8) X (th_da dtX0_freeNumber 5 rfl) rfl ?_
      refine V_iload_n (pc := 9) X (th_da dtX0_freeNumber 6 rfl) rfl ?_
      obtain ⟨u2, h2, e2, hf⟩ := th_bd_some hf
      refine V_callVi (pc := 10) (q := p) (As := [.int y1]) X (th_da dtX0_freeNumber 7 rfl) (mX0_has l p hp _ _ _ _ e2) wcd_X0_has wml_X0_46 wim_X0_has wse_X0_has win_X0_has hd_X0_has ⟨Nat.le_of_ble_eq_true rfl, Nat.le_of_ble_eq_true rfl⟩ (Nat.le_of_ble_eq_true rfl) rfl (P_0 hp) rfl ?_
      refine V_if_ne (pc := 13) (tgt := 18) X (th_da dtX0_freeNumber 8 rfl) (by decide) (fun c3 => ?_) (fun c3 => ?_)
      · rw [if_pos c3] at hf
        refine V_iload_n (pc := 16) X (th_da dtX0_freeNumber 9 rfl) rfl ?_
        exact V_iretF (pc := 17) X (th_da dtX0_freeNumber 10 rfl) hf
      · rw [if_neg c3] at hf
        refine V_iinc (pc := 18) (v := y1 + 1) (ls2 := [.ref p, .int (y1 + 1)]) X (th_da dtX0_freeNumber 11 rfl) rfl rfl (Nat.le_of_ble_eq_true rfl) rfl rfl ?_
        refine V_goto (pc := 21) (tgt := 2) X (th_da dtX0_freeNumber 12 rfl) (by decide) ?_
        exact ih _ _ hf
    · rw [if_neg c1] at hf
      refine V_iconst (pc := 24) (v := (-1)) X (th_da dtX0_freeNumber 13 rfl) (by decide) ?_
      exact V_iretF (pc := 25) X (th_da dtX0_freeNumber 14 rfl) hf
set_option maxHeartbeats 4000000 in
set_option maxRecDepth 100000 in
theorem mX0_freeNumber (l : Launch) (p : Nat) (hp : isP p) (h : th_H) (rr : Int32) (hh : th_H) (hf : fX0_freeNumber p h = some (rr, hh)) : th_MI l LC yX0_freeNumber cX0_freeNumber 2 (some .int) 1 21 [.ref p] h (some (.int rr)) hh := by
  refine th_MI_of (ls := [.ref p, .null]) RX0 rfl rfl rfl (Nat.le_of_ble_eq_true rfl) ?_
  intro p0 e s m args below meth c D cI cZ ad X
  unfold fX0_freeNumber at hf
  refine V_iconst (pc := 0) (v := 0) X (th_da dtX0_freeNumber 0 rfl) (by decide) ?_
  refine V_istore_n (pc := 1) (ls2 := [.ref p, .int 0]) X (th_da dtX0_freeNumber 1 rfl) (Nat.le_of_ble_eq_true rfl) rfl rfl ?_
  exact tX0_freeNumber_c2 X _ hp _ _ _ hf
end
def fX0_hasRoom_c2 (p : Nat) : Nat → Int32 → Int32 → Int32 → th_H → Option (Int32 × th_H)
  | 0, _, _, _, _ => none
  | n + 1, y1, y2, y3, h =>
    if (y3 < 10 : Prop) then
      if (((y1 >>> (y3 &&& 31)) &&& 1) = 0 : Prop) then
        fX0_hasRoom_c2 p n y1 y2 (y3 + 1) h
      else
        th_bd (fX0_boundOf p y3 h) fun u3 h3 =>
        th_rd h3 (p + 1) 10 y3 fun v4 =>
        if (v4 < (u3 + y2) : Prop) then
          some (0, h3)
        else
          fX0_hasRoom_c2 p n y1 y2 (y3 + 1) h3
    else
      some (1, h)
def fX0_hasRoom (p : Nat) (x1 : Int32) (x2 : Int32) (h : th_H) : Option (Int32 × th_H) :=
  fX0_hasRoom_c2 p 1000 x1 x2 0 h
def tbX0_hasRoom : List (Nat × Instr × Nat) := [(0, .iconst 0, 1), (1, .istore_n 3, 1), (2, .iload_n 3, 1), (3, .bipush 10, 2), (5, .if_icmp .ge 35, 3), (8, .iload_n 1, 1), (9, .iload_n 3, 1), (10, .ishr, 1), (11, .iconst 1, 1), (12, .iand, 1), (13, .ifCond .eq 21, 3), (16, .aload_n 0, 1), (17, .iload_n 3, 1), (18, .invokevirtual 62, 3), (21, .iload_n 2, 1), (22, .iadd, 1), (23, .aload_n 0, 1), (24, .getfield 9, 3), (27, .iload_n 3, 1), (28, .iaload, 1), (29, .if_icmp .le 5, 3), (32, .iconst 0, 1), (33, .ireturn, 1), (34, .iinc 3 1, 3), (37, .goto (-35), 3), (40, .iconst 1, 1), (41, .ireturn, 1)]
theorem dtX0_hasRoom : th_dec cX0_hasRoom tbX0_hasRoom = true := by decide +kernel
section
variable {p0 : Program} {l : Launch} {e : Env} {s : State} {m : MethodId} {args : Array Value} {below : List Frame} {meth : Method} {c : Code} {D : va_G} {cI cZ : ClassId} {ad : Nat → Nat} {rr : Int32} {hh : th_H}
set_option maxHeartbeats 4000000 in
set_option maxRecDepth 100000 in
theorem tX0_hasRoom_c2 (X : th_X p0 s m args meth c D cI cZ ad LC 4 RX0 cX0_hasRoom (some .boolean)) (p : Nat) (hp : isP p) : ∀ (n : Nat) (y1 : Int32) (y2 : Int32) (y3 : Int32) (h : th_H), fX0_hasRoom_c2 p n y1 y2 y3 h = some (rr, hh) → th_V p0 l e { frames := 1, cells := 0, slots := 0, locals := 23 } s m args below meth c D cI cZ ad LC 4 (some (.int rr)) hh 2 [.ref p, .int y1, .int y2, .int y3] [] h := by
  intro n
  induction n with
  | zero => intro y1 y2 y3 h hf; cases hf
  | succ n ih =>
    intro y1 y2 y3 h hf
    rw [fX0_hasRoom_c2] at hf
    refine V_iload_n (pc := 2) X (th_da dtX0_hasRoom 2 rfl) rfl ?_
    refine V_bipush (pc := 3) (v := 10) X (th_da dtX0_hasRoom 3 rfl) (by decide) ?_
    refine V_icmp_ge (pc := 5) (tgt := 40) X (th_da dtX0_hasRoom 4 rfl) (by decide) (fun c1 => ?_) (fun c1 => ?_)
    · rw [if_pos c1] at hf
      refine V_iload_n (pc := 8) X (th_da dtX0_hasRoom 5 rfl) rfl ?_
      refine V_iload_n (pc := 9) X (th_da dtX0_hasRoom 6 rfl) rfl ?_
      refine V_ishr (pc := 10) X (th_da dtX0_hasRoom 7 rfl) ?_
      refine V_iconst (pc := 11) (v := 1) X (th_da dtX0_hasRoom 8 rfl) (by decide) ?_
      refine V_iand (pc := 12) X (th_da dtX0_hasRoom 9 rfl) ?_
      refine V_if_eq (pc := 13) (tgt := 34) X (th_da dtX0_hasRoom 10 rfl) (by decide) (fun c2 => ?_) (fun c2 => ?_)
      · rw [if_pos c2] at hf
        refine V_iinc (pc := 34) (v := y3 + 1) (ls2 := [.ref p, .int y1, .int y2, .int (y3 + 1)]) X (th_da dtX0_hasRoom 23 rfl) rfl rfl (Nat.le_of_ble_eq_true rfl) rfl rfl ?_
        refine V_goto (pc := 37) (tgt := 2) X (th_da dtX0_hasRoom 24 rfl) (by decide) ?_
        exact ih _ _ _ _ hf
      · rw [if_neg c2] at hf
        refine V_aload_n (pc := 16) X (th_da dtX0_hasRoom 11 rfl) rfl ?_
        refine V_iload_n (pc := 17) X (th_da dtX0_hasRoom 12 rfl) rfl ?_
        obtain ⟨u3, h3, e3, hf⟩ := th_bd_some hf
        refine V_callVi (pc := 18) (q := p) (As := [.int y3]) X (th_da dtX0_hasRoom 13 rfl) (mX0_boundOf l p hp _ _ _ _ e3) wcd_X0_boundOf wml_X0_62 wim_X0_boundOf wse_X0_boundOf win_X0_boundOf hd_X0_boundOf ⟨Nat.le_of_ble_eq_true rfl, Nat.le_of_ble_eq_true rfl⟩ (Nat.le_of_ble_eq_true rfl) rfl (P_0 hp) rfl ?_
        refine V_iload_n (pc := 21) X (th_da dtX0_hasRoom 14 rfl) rfl ?_
        refine V_iadd (pc := 22) X (th_da dtX0_hasRoom 15 rfl) ?_
        refine V_aload_n (pc := 23) X (th_da dtX0_hasRoom 16 rfl) rfl ?_
        refine V_getR (pc := 24) (j := 0) (t := (p + 1)) X (th_da dtX0_hasRoom 17 rfl) wfl_X0_9 iX0 rfl (P_0 hp) (Nat.le_of_ble_eq_true rfl) rfl ?_
        refine V_iload_n (pc := 27) X (th_da dtX0_hasRoom 18 rfl) rfl ?_
        obtain ⟨v4, e4, g4, hf⟩ := th_rd_some hf
        refine V_iald (pc := 28) X (th_da dtX0_hasRoom 19 rfl) (P_1 hp) g4 e4 ?_
        refine V_icmp_le (pc := 29) (tgt := 34) X (th_da dtX0_hasRoom 20 rfl) (by decide) (fun c5 => ?_) (fun c5 => ?_)
        · rw [if_pos c5] at hf
          refine V_iconst (pc := 32) (v := 0) X (th_da dtX0_hasRoom 21 rfl) (by decide) ?_
          exact V_zretF (pc := 33) X (th_da dtX0_hasRoom 22 rfl) (Or.inl rfl) hf
        · rw [if_neg c5] at hf
          refine V_iinc (pc := 34) (v := y3 + 1) (ls2 := [.ref p, .int y1, .int y2, .int (y3 + 1)]) X (th_da dtX0_hasRoom 23 rfl) rfl rfl (Nat.le_of_ble_eq_true rfl) rfl rfl ?_
          refine V_goto (pc := 37) (tgt := 2) X (th_da dtX0_hasRoom 24 rfl) (by decide) ?_
          exact ih _ _ _ _ hf
    · rw [if_neg c1] at hf
      refine V_iconst (pc := 40) (v := 1) X (th_da dtX0_hasRoom 25 rfl) (by decide) ?_
      exact V_zretF (pc := 41) X (th_da dtX0_hasRoom 26 rfl) (Or.inr rfl) hf
set_option maxHeartbeats 4000000 in
set_option maxRecDepth 100000 in
theorem mX0_hasRoom (l : Launch) (p : Nat) (hp : isP p) (x1 : Int32) (x2 : Int32) (h : th_H) (rr : Int32) (hh : th_H) (hf : fX0_hasRoom p x1 x2 h = some (rr, hh)) : th_MI l LC yX0_hasRoom cX0_hasRoom 4 (some .boolean) 1 23 [.ref p, .int x1, .int x2] h (some (.int rr)) hh := by
  refine th_MI_of (ls := [.ref p, .int x1, .int x2, .null]) RX0 rfl rfl rfl (Nat.le_of_ble_eq_true rfl) ?_
  intro p0 e s m args below meth c D cI cZ ad X
  unfold fX0_hasRoom at hf
  refine V_iconst (pc := 0) (v := 0) X (th_da dtX0_hasRoom 0 rfl) (by decide) ?_
  refine V_istore_n (pc := 1) (ls2 := [.ref p, .int x1, .int x2, .int 0]) X (th_da dtX0_hasRoom 1 rfl) (Nat.le_of_ble_eq_true rfl) rfl rfl ?_
  exact tX0_hasRoom_c2 X _ hp _ _ _ _ _ hf
end
def fX0_flowNamed_c2 (p : Nat) : Nat → Int32 → Int32 → th_H → Option (Int32 × th_H)
  | 0, _, _, _ => none
  | n + 1, y1, y2, h =>
    if (y2 < 20 : Prop) then
      th_bd (fX0_has p y2 h) fun u2 h2 =>
      if (u2 = 0 : Prop) then
        fX0_flowNamed_c2 p n y1 (y2 + 1) h2
      else
        th_rd h2 (p + 3) 20 y2 fun v4 =>
        if (v4 = y1 : Prop) then
          some (y2, h2)
        else
          fX0_flowNamed_c2 p n y1 (y2 + 1) h2
    else
      some ((-1), h)
def fX0_flowNamed (p : Nat) (x1 : Int32) (h : th_H) : Option (Int32 × th_H) :=
  fX0_flowNamed_c2 p 1000 x1 0 h
def tbX0_flowNamed : List (Nat × Instr × Nat) := [(0, .iconst 0, 1), (1, .istore_n 2, 1), (2, .iload_n 2, 1), (3, .bipush 20, 2), (5, .if_icmp .ge 29, 3), (8, .aload_n 0, 1), (9, .iload_n 2, 1), (10, .invokevirtual 46, 3), (13, .ifCond .eq 15, 3), (16, .aload_n 0, 1), (17, .getfield 18, 3), (20, .iload_n 2, 1), (21, .iaload, 1), (22, .iload_n 1, 1), (23, .if_icmp .ne 5, 3), (26, .iload_n 2, 1), (27, .ireturn, 1), (28, .iinc 2 1, 3), (31, .goto (-29), 3), (34, .iconst (-1), 1), (35, .ireturn, 1)]
theorem dtX0_flowNamed : th_dec cX0_flowNamed tbX0_flowNamed = true := by decide +kernel
section
variable {p0 : Program} {l : Launch} {e : Env} {s : State} {m : MethodId} {args : Array Value} {below : List Frame} {meth : Method} {c : Code} {D : va_G} {cI cZ : ClassId} {ad : Nat → Nat} {rr : Int32} {hh : th_H}
set_option maxHeartbeats 4000000 in
set_option maxRecDepth 100000 in
theorem tX0_flowNamed_c2 (X : th_X p0 s m args meth c D cI cZ ad LC 3 RX0 cX0_flowNamed (some .int)) (p : Nat) (hp : isP p) : ∀ (n : Nat) (y1 : Int32) (y2 : Int32) (h : th_H), fX0_flowNamed_c2 p n y1 y2 h = some (rr, hh) → th_V p0 l e { frames := 1, cells := 0, slots := 0, locals := 21 } s m args below meth c D cI cZ ad LC 3 (some (.int rr)) hh 2 [.ref p, .int y1, .int y2] [] h := by
  intro n
  induction n with
  | zero => intro y1 y2 h hf; cases hf
  | succ n ih =>
    intro y1 y2 h hf
    rw [fX0_flowNamed_c2] at hf
    refine V_iload_n (pc := 2) X (th_da dtX0_flowNamed 2 rfl) rfl ?_
    refine V_bipush (pc := 3) (v := 20) X (th_da dtX0_flowNamed 3 rfl) (by decide) ?_
    refine V_icmp_ge (pc := 5) (tgt := 34) X (th_da dtX0_flowNamed 4 rfl) (by decide) (fun c1 => ?_) (fun c1 => ?_)
    · rw [if_pos c1] at hf
      refine V_aload_n (pc := 8) X (th_da dtX0_flowNamed 5 rfl) rfl ?_
      refine V_iload_n (pc := 9) X (th_da dtX0_flowNamed 6 rfl) rfl ?_
      obtain ⟨u2, h2, e2, hf⟩ := th_bd_some hf
      refine V_callVi (pc := 10) (q := p) (As := [.int y2]) X (th_da dtX0_flowNamed 7 rfl) (mX0_has l p hp _ _ _ _ e2) wcd_X0_has wml_X0_46 wim_X0_has wse_X0_has win_X0_has hd_X0_has ⟨Nat.le_of_ble_eq_true rfl, Nat.le_of_ble_eq_true rfl⟩ (Nat.le_of_ble_eq_true rfl) rfl (P_0 hp) rfl ?_
      refine V_if_eq (pc := 13) (tgt := 28) X (th_da dtX0_flowNamed 8 rfl) (by decide) (fun c3 => ?_) (fun c3 => ?_)
      · rw [if_pos c3] at hf
        refine V_iinc (pc := 28) (v := y2 + 1) (ls2 := [.ref p, .int y1, .int (y2 + 1)]) X (th_da dtX0_flowNamed 17 rfl) rfl rfl (Nat.le_of_ble_eq_true rfl) rfl rfl ?_
        refine V_goto (pc := 31) (tgt := 2) X (th_da dtX0_flowNamed 18 rfl) (by decide) ?_
        exact ih _ _ _ hf
      · rw [if_neg c3] at hf
        refine V_aload_n (pc := 16) X (th_da dtX0_flowNamed 9 rfl) rfl ?_
        refine V_getR (pc := 17) (j := 2) (t := (p + 3)) X (th_da dtX0_flowNamed 10 rfl) wfl_X0_18 iX0 rfl (P_0 hp) (Nat.le_of_ble_eq_true rfl) rfl ?_
        refine V_iload_n (pc := 20) X (th_da dtX0_flowNamed 11 rfl) rfl ?_
        obtain ⟨v4, e4, g4, hf⟩ := th_rd_some hf
        refine V_iald (pc := 21) X (th_da dtX0_flowNamed 12 rfl) (P_3 hp) g4 e4 ?_
        refine V_iload_n (pc := 22) X (th_da dtX0_flowNamed 13 rfl) rfl ?_
        refine V_icmp_ne (pc := 23) (tgt := 28) X (th_da dtX0_flowNamed 14 rfl) (by decide) (fun c5 => ?_) (fun c5 => ?_)
        · rw [if_pos c5] at hf
          refine V_iload_n (pc := 26) X (th_da dtX0_flowNamed 15 rfl) rfl ?_
          exact V_iretF (pc := 27) X (th_da dtX0_flowNamed 16 rfl) hf
        · rw [if_neg c5] at hf
          refine V_iinc (pc := 28) (v := y2 + 1) (ls2 := [.ref p, .int y1, .int (y2 + 1)]) X (th_da dtX0_flowNamed 17 rfl) rfl rfl (Nat.le_of_ble_eq_true rfl) rfl rfl ?_
          refine V_goto (pc := 31) (tgt := 2) X (th_da dtX0_flowNamed 18 rfl) (by decide) ?_
          exact ih _ _ _ hf
    · rw [if_neg c1] at hf
      refine V_iconst (pc := 34) (v := (-1)) X (th_da dtX0_flowNamed 19 rfl) (by decide) ?_
      exact V_iretF (pc := 35) X (th_da dtX0_flowNamed 20 rfl) hf
set_option maxHeartbeats 4000000 in
set_option maxRecDepth 100000 in
theorem mX0_flowNamed (l : Launch) (p : Nat) (hp : isP p) (x1 : Int32) (h : th_H) (rr : Int32) (hh : th_H) (hf : fX0_flowNamed p x1 h = some (rr, hh)) : th_MI l LC yX0_flowNamed cX0_flowNamed 3 (some .int) 1 21 [.ref p, .int x1] h (some (.int rr)) hh := by
  refine th_MI_of (ls := [.ref p, .int x1, .null]) RX0 rfl rfl rfl (Nat.le_of_ble_eq_true rfl) ?_
  intro p0 e s m args below meth c D cI cZ ad X
  unfold fX0_flowNamed at hf
  refine V_iconst (pc := 0) (v := 0) X (th_da dtX0_flowNamed 0 rfl) (by decide) ?_
  refine V_istore_n (pc := 1) (ls2 := [.ref p, .int x1, .int 0]) X (th_da dtX0_flowNamed 1 rfl) (Nat.le_of_ble_eq_true rfl) rfl rfl ?_
  exact tX0_flowNamed_c2 X _ hp _ _ _ _ hf
end
def fX0_goesOver (p : Nat) (x1 : Int32) (x2 : Int32) (h : th_H) : Option (Int32 × th_H) :=
  th_rd h (p + 4) 20 x1 fun v1 =>
  if (((v1 >>> (x2 &&& 31)) &&& 1) = 0 : Prop) then
    some (0, h)
  else
    some (1, h)
def tbX0_goesOver : List (Nat × Instr × Nat) := [(0, .aload_n 0, 1), (1, .getfield 21, 3), (4, .iload_n 1, 1), (5, .iaload, 1), (6, .iload_n 2, 1), (7, .ishr, 1), (8, .iconst 1, 1), (9, .iand, 1), (10, .ifCond .eq 7, 3), (13, .iconst 1, 1), (14, .goto 4, 3), (17, .iconst 0, 1), (18, .ireturn, 1)]
theorem dtX0_goesOver : th_dec cX0_goesOver tbX0_goesOver = true := by decide +kernel
section
variable {p0 : Program} {l : Launch} {e : Env} {s : State} {m : MethodId} {args : Array Value} {below : List Frame} {meth : Method} {c : Code} {D : va_G} {cI cZ : ClassId} {ad : Nat → Nat} {rr : Int32} {hh : th_H}
set_option maxHeartbeats 4000000 in
set_option maxRecDepth 100000 in
theorem mX0_goesOver (l : Launch) (p : Nat) (hp : isP p) (x1 : Int32) (x2 : Int32) (h : th_H) (rr : Int32) (hh : th_H) (hf : fX0_goesOver p x1 x2 h = some (rr, hh)) : th_MI l LC yX0_goesOver cX0_goesOver 3 (some .boolean) 0 0 [.ref p, .int x1, .int x2] h (some (.int rr)) hh := by
  refine th_MI_of (ls := [.ref p, .int x1, .int x2]) RX0 rfl rfl rfl (Nat.le_of_ble_eq_true rfl) ?_
  intro p0 e s m args below meth c D cI cZ ad X
  unfold fX0_goesOver at hf
  refine V_aload_n (pc := 0) X (th_da dtX0_goesOver 0 rfl) rfl ?_
  refine V_getR (pc := 1) (j := 3) (t := (p + 4)) X (th_da dtX0_goesOver 1 rfl) wfl_X0_21 iX0 rfl (P_0 hp) (Nat.le_of_ble_eq_true rfl) rfl ?_
  refine V_iload_n (pc := 4) X (th_da dtX0_goesOver 2 rfl) rfl ?_
  obtain ⟨v1, e1, g1, hf⟩ := th_rd_some hf
  refine V_iald (pc := 5) X (th_da dtX0_goesOver 3 rfl) (P_4 hp) g1 e1 ?_
  refine V_iload_n (pc := 6) X (th_da dtX0_goesOver 4 rfl) rfl ?_
  refine V_ishr (pc := 7) X (th_da dtX0_goesOver 5 rfl) ?_
  refine V_iconst (pc := 8) (v := 1) X (th_da dtX0_goesOver 6 rfl) (by decide) ?_
  refine V_iand (pc := 9) X (th_da dtX0_goesOver 7 rfl) ?_
  refine V_if_eq (pc := 10) (tgt := 17) X (th_da dtX0_goesOver 8 rfl) (by decide) (fun c2 => ?_) (fun c2 => ?_)
  · rw [if_pos c2] at hf
    refine V_iconst (pc := 17) (v := 0) X (th_da dtX0_goesOver 11 rfl) (by decide) ?_
    exact V_zretF (pc := 18) X (th_da dtX0_goesOver 12 rfl) (Or.inl rfl) hf
  · rw [if_neg c2] at hf
    refine V_iconst (pc := 13) (v := 1) X (th_da dtX0_goesOver 9 rfl) (by decide) ?_
    refine V_goto (pc := 14) (tgt := 18) X (th_da dtX0_goesOver 10 rfl) (by decide) ?_
    exact V_zretF (pc := 18) X (th_da dtX0_goesOver 12 rfl) (Or.inr rfl) hf
end
def fX0_setPath_c9 (p : Nat) : Nat → Int32 → Int32 → th_H → Option (Unit × th_H)
  | 0, _, _, _ => none
  | n + 1, y1, y3, h =>
    if (y3 < 10 : Prop) then
      th_rd h (p + 2) 10 y3 fun v2 =>
      th_bd (fX0_goesOver p y1 y3 h) fun u3 h3 =>
      if (u3 = 0 : Prop) then
        th_wr h3 (p + 2) 10 y3 (v2 &&& (((1 : Int32) <<< (y1 &&& 31)) ^^^ (-1))) fun h5 =>
        fX0_setPath_c9 p n y1 (y3 + 1) h5
      else
        th_wr h3 (p + 2) 10 y3 ((v2 &&& (((1 : Int32) <<< (y1 &&& 31)) ^^^ (-1))) ||| ((1 : Int32) <<< (y1 &&& 31))) fun h6 =>
        fX0_setPath_c9 p n y1 (y3 + 1) h6
    else
      th_st (th_up h p 8 ((h.1 p 8) + 1)) fun h7 =>
      some ((), h7)
def fX0_setPath (p : Nat) (x1 : Int32) (x2 : Int32) (h : th_H) : Option (Unit × th_H) :=
  th_wr h (p + 4) 20 x1 x2 fun h1 =>
  fX0_setPath_c9 p 1000 x1 0 h1
def tbX0_setPath : List (Nat × Instr × Nat) := [(0, .aload_n 0, 1), (1, .getfield 21, 3), (4, .iload_n 1, 1), (5, .iload_n 2, 1), (6, .iastore, 1), (7, .iconst 0, 1), (8, .istore_n 3, 1), (9, .iload_n 3, 1), (10, .bipush 10, 2), (12, .if_icmp .ge 49, 3), (15, .aload_n 0, 1), (16, .getfield 15, 3), (19, .iload_n 3, 1), (20, .iaload, 1), (21, .iconst 1, 1), (22, .iload_n 1, 1), (23, .ishl, 1), (24, .iconst (-1), 1), (25, .ixor, 1), (26, .iand, 1), (27, .istore 4, 2), (29, .aload_n 0, 1), (30, .getfield 15, 3), (33, .iload_n 3, 1), (34, .aload_n 0, 1), (35, .iload_n 1, 1), (36, .iload_n 3, 1), (37, .invokevirtual 58, 3), (40, .ifCond .eq 12, 3), (43, .iload 4, 2), (45, .iconst 1, 1), (46, .iload_n 1, 1), (47, .ishl, 1), (48, .ior, 1), (49, .goto 5, 3), (52, .iload 4, 2), (54, .iastore, 1), (55, .iinc 3 1, 3), (58, .goto (-49), 3), (61, .aload_n 0, 1), (62, .dup, 1), (63, .getfield 43, 3), (66, .iconst 1, 1), (67, .iadd, 1), (68, .putfield 43, 3), (71, .return_, 1)]
theorem dtX0_setPath : th_dec cX0_setPath tbX0_setPath = true := by decide +kernel
section
variable {p0 : Program} {l : Launch} {e : Env} {s : State} {m : MethodId} {args : Array Value} {below : List Frame} {meth : Method} {c : Code} {D : va_G} {cI cZ : ClassId} {ad : Nat → Nat} {rr : Unit} {hh : th_H}
set_option maxHeartbeats 4000000 in
set_option maxRecDepth 100000 in
theorem tX0_setPath_c9 (X : th_X p0 s m args meth c D cI cZ ad LC 5 RX0 cX0_setPath none) (p : Nat) (hp : isP p) : ∀ (n : Nat) (y1 : Int32) (y3 : Int32) (h : th_H), fX0_setPath_c9 p n y1 y3 h = some (rr, hh) → th_V p0 l e { frames := 1, cells := 0, slots := 0, locals := 22 } s m args below meth c D cI cZ ad LC 5 none hh 9 [.ref p, .int y1, .null, .int y3, .null] [] h := by
  intro n
  induction n with
  | zero => intro y1 y3 h hf; cases hf
  | succ n ih =>
    intro y1 y3 h hf
    rw [fX0_setPath_c9] at hf
    refine V_iload_n (pc := 9) X (th_da dtX0_setPath 7 rfl) rfl ?_
    refine V_bipush (pc := 10) (v := 10) X (th_da dtX0_setPath 8 rfl) (by decide) ?_
    refine V_icmp_ge (pc := 12) (tgt := 61) X (th_da dtX0_setPath 9 rfl) (by decide) (fun c1 => ?_) (fun c1 => ?_)
    · rw [if_pos c1] at hf
      refine V_aload_n (pc := 15) X (th_da dtX0_setPath 10 rfl) rfl ?_
      refine V_getR (pc := 16) (j := 1) (t := (p + 2)) X (th_da dtX0_setPath 11 rfl) wfl_X0_15 iX0 rfl (P_0 hp) (Nat.le_of_ble_eq_true rfl) rfl ?_
      refine V_iload_n (pc := 19) X (th_da dtX0_setPath 12 rfl) rfl ?_
      obtain ⟨v2, e2, g2, hf⟩ := th_rd_some hf
      refine V_iald (pc := 20) X (th_da dtX0_setPath 13 rfl) (P_2 hp) g2 e2 ?_
      refine V_iconst (pc := 21) (v := 1) X (th_da dtX0_setPath 14 rfl) (by decide) ?_
      refine V_iload_n (pc := 22) X (th_da dtX0_setPath 15 rfl) rfl ?_
      refine V_ishl (pc := 23) X (th_da dtX0_setPath 16 rfl) ?_
      refine V_iconst (pc := 24) (v := (-1)) X (th_da dtX0_setPath 17 rfl) (by decide) ?_
      refine V_ixor (pc := 25) X (th_da dtX0_setPath 18 rfl) ?_
      refine V_iand (pc := 26) X (th_da dtX0_setPath 19 rfl) ?_
      refine V_istore (pc := 27) (ls2 := [.ref p, .int y1, .null, .int y3, .int (v2 &&& (((1 : Int32) <<< (y1 &&& 31)) ^^^ (-1)))]) X (th_da dtX0_setPath 20 rfl) (Nat.le_of_ble_eq_true rfl) rfl rfl ?_
      refine V_aload_n (pc := 29) X (th_da dtX0_setPath 21 rfl) rfl ?_
      refine V_getR (pc := 30) (j := 1) (t := (p + 2)) X (th_da dtX0_setPath 22 rfl) wfl_X0_15 iX0 rfl (P_0 hp) (Nat.le_of_ble_eq_true rfl) rfl ?_
      refine V_iload_n (pc := 33) X (th_da dtX0_setPath 23 rfl) rfl ?_
      refine V_aload_n (pc := 34) X (th_da dtX0_setPath 24 rfl) rfl ?_
      refine V_iload_n (pc := 35) X (th_da dtX0_setPath 25 rfl) rfl ?_
      refine V_iload_n (pc := 36) X (th_da dtX0_setPath 26 rfl) rfl ?_
      obtain ⟨u3, h3, e3, hf⟩ := th_bd_some hf
      refine V_callVi (pc := 37) (q := p) (As := [.int y1, .int y3]) X (th_da dtX0_setPath 27 rfl) (mX0_goesOver l p hp _ _ _ _ _ e3) wcd_X0_goesOver wml_X0_58 wim_X0_goesOver wse_X0_goesOver win_X0_goesOver hd_X0_goesOver ⟨Nat.le_of_ble_eq_true rfl, Nat.le_of_ble_eq_true rfl⟩ (Nat.le_of_ble_eq_true rfl) rfl (P_0 hp) rfl ?_
      refine V_if_eq (pc := 40) (tgt := 52) X (th_da dtX0_setPath 28 rfl) (by decide) (fun c4 => ?_) (fun c4 => ?_)
      · rw [if_pos c4] at hf
        refine V_iload (pc := 52) X (th_da dtX0_setPath 35 rfl) rfl ?_
        obtain ⟨h5, e5, g5, hf⟩ := th_wr_some hf
        refine V_iast (pc := 54) X (th_da dtX0_setPath 36 rfl) (P_2 hp) g5 e5 ?_
        refine V_iinc (pc := 55) (v := y3 + 1) (ls2 := [.ref p, .int y1, .null, .int (y3 + 1), .int (v2 &&& (((1 : Int32) <<< (y1 &&& 31)) ^^^ (-1)))]) X (th_da dtX0_setPath 37 rfl) rfl rfl (Nat.le_of_ble_eq_true rfl) rfl rfl ?_
        refine V_goto (pc := 58) (tgt := 9) X (th_da dtX0_setPath 38 rfl) (by decide) ?_
        refine V_mask [true, true, false, true, false] (ls2 := [.ref p, .int y1, .null, .int (y3 + 1), .null]) rfl ?_
        exact ih _ _ _ hf
      · rw [if_neg c4] at hf
        refine V_iload (pc := 43) X (th_da dtX0_setPath 29 rfl) rfl ?_
        refine V_iconst (pc := 45) (v := 1) X (th_da dtX0_setPath 30 rfl) (by decide) ?_
        refine V_iload_n (pc := 46) X (th_da dtX0_setPath 31 rfl) rfl ?_
        refine V_ishl (pc := 47) X (th_da dtX0_setPath 32 rfl) ?_
        refine V_ior (pc := 48) X (th_da dtX0_setPath 33 rfl) ?_
        refine V_goto (pc := 49) (tgt := 54) X (th_da dtX0_setPath 34 rfl) (by decide) ?_
        obtain ⟨h6, e6, g6, hf⟩ := th_wr_some hf
        refine V_iast (pc := 54) X (th_da dtX0_setPath 36 rfl) (P_2 hp) g6 e6 ?_
        refine V_iinc (pc := 55) (v := y3 + 1) (ls2 := [.ref p, .int y1, .null, .int (y3 + 1), .int (v2 &&& (((1 : Int32) <<< (y1 &&& 31)) ^^^ (-1)))]) X (th_da dtX0_setPath 37 rfl) rfl rfl (Nat.le_of_ble_eq_true rfl) rfl rfl ?_
        refine V_goto (pc := 58) (tgt := 9) X (th_da dtX0_setPath 38 rfl) (by decide) ?_
        refine V_mask [true, true, false, true, false] (ls2 := [.ref p, .int y1, .null, .int (y3 + 1), .null]) rfl ?_
        exact ih _ _ _ hf
    · rw [if_neg c1] at hf
      refine V_aload_n (pc := 61) X (th_da dtX0_setPath 39 rfl) rfl ?_
      refine V_dup (pc := 62) X (th_da dtX0_setPath 40 rfl) rfl ?_
      refine V_getI (pc := 63) (j := 8) X (th_da dtX0_setPath 41 rfl) wfl_X0_43 iX0 rfl (P_0 hp) (Nat.le_of_ble_eq_true rfl) rfl ?_
      refine V_iconst (pc := 66) (v := 1) X (th_da dtX0_setPath 42 rfl) (by decide) ?_
      refine V_iadd (pc := 67) X (th_da dtX0_setPath 43 rfl) ?_
      obtain ⟨h7, e7, hf⟩ := th_st_some hf
      refine V_putI (pc := 68) (j := 8) (ty := .int) X (th_da dtX0_setPath 44 rfl) wfl_X0_43 iX0 rfl (P_0 hp) (Nat.le_of_ble_eq_true rfl) rfl tyX0 tyX0_ok nmX0 rfl (tyX0_ok 8 (Nat.le_of_ble_eq_true rfl)) rfl rfl e7 ?_
      exact V_vretF (pc := 71) X (th_da dtX0_setPath 45 rfl) hf
set_option maxHeartbeats 4000000 in
set_option maxRecDepth 100000 in
theorem mX0_setPath (l : Launch) (p : Nat) (hp : isP p) (x1 : Int32) (x2 : Int32) (h : th_H) (rr : Unit) (hh : th_H) (hf : fX0_setPath p x1 x2 h = some (rr, hh)) : th_MI l LC yX0_setPath cX0_setPath 5 none 1 22 [.ref p, .int x1, .int x2] h none hh := by
  refine th_MI_of (ls := [.ref p, .int x1, .int x2, .null, .null]) RX0 rfl rfl rfl (Nat.le_of_ble_eq_true rfl) ?_
  intro p0 e s m args below meth c D cI cZ ad X
  unfold fX0_setPath at hf
  refine V_aload_n (pc := 0) X (th_da dtX0_setPath 0 rfl) rfl ?_
  refine V_getR (pc := 1) (j := 3) (t := (p + 4)) X (th_da dtX0_setPath 1 rfl) wfl_X0_21 iX0 rfl (P_0 hp) (Nat.le_of_ble_eq_true rfl) rfl ?_
  refine V_iload_n (pc := 4) X (th_da dtX0_setPath 2 rfl) rfl ?_
  refine V_iload_n (pc := 5) X (th_da dtX0_setPath 3 rfl) rfl ?_
  obtain ⟨h1, e1, g1, hf⟩ := th_wr_some hf
  refine V_iast (pc := 6) X (th_da dtX0_setPath 4 rfl) (P_4 hp) g1 e1 ?_
  refine V_iconst (pc := 7) (v := 0) X (th_da dtX0_setPath 5 rfl) (by decide) ?_
  refine V_istore_n (pc := 8) (ls2 := [.ref p, .int x1, .int x2, .int 0, .null]) X (th_da dtX0_setPath 6 rfl) (Nat.le_of_ble_eq_true rfl) rfl rfl ?_
  refine V_mask [true, true, false, true, false] (ls2 := [.ref p, .int x1, .null, .int 0, .null]) rfl ?_
  exact tX0_setPath_c9 X _ hp _ _ _ _ hf
end
def fX0_add (p : Nat) (x1 : Int32) (x2 : Int32) (x3 : Int32) (x4 : Int32) (x5 : Int32) (h : th_H) : Option (Int32 × th_H) :=
  th_bd (fX0_freeNumber p h) fun u1 h1 =>
  if (u1 = (-1) : Prop) then
    some ((-1), h1)
  else
    th_st (th_up h1 p 7 ((h1.1 p 7) ||| ((1 : Int32) <<< (u1 &&& 31)))) fun h3 =>
    th_wr h3 (p + 3) 20 u1 x1 fun h4 =>
    th_wr h4 (p + 5) 20 u1 x3 fun h5 =>
    th_wr h5 (p + 6) 20 u1 x4 fun h6 =>
    th_wr h6 (p + 7) 20 u1 x5 fun h7 =>
    th_bd (fX0_setPath p u1 x2 h7) fun _u8 h8 =>
    some (u1, h8)
def tbX0_add : List (Nat × Instr × Nat) := [(0, .aload_n 0, 1), (1, .invokevirtual 50, 3), (4, .istore 6, 2), (6, .iload 6, 2), (8, .iconst (-1), 1), (9, .if_icmp .ne 5, 3), (12, .iconst (-1), 1), (13, .ireturn, 1), (14, .aload_n 0, 1), (15, .dup, 1), (16, .getfield 39, 3), (19, .iconst 1, 1), (20, .iload 6, 2), (22, .ishl, 1), (23, .ior, 1), (24, .putfield 39, 3), (27, .aload_n 0, 1), (28, .getfield 18, 3), (31, .iload 6, 2), (33, .iload_n 1, 1), (34, .iastore, 1), (35, .aload_n 0, 1), (36, .getfield 24, 3), (39, .iload 6, 2), (41, .iload_n 3, 1), (42, .iastore, 1), (43, .aload_n 0, 1), (44, .getfield 27, 3), (47, .iload 6, 2), (49, .iload 4, 2), (51, .iastore, 1), (52, .aload_n 0, 1), (53, .getfield 30, 3), (56, .iload 6, 2), (58, .iload 5, 2), (60, .iastore, 1), (61, .aload_n 0, 1), (62, .iload 6, 2), (64, .iload_n 2, 1), (65, .invokevirtual 54, 3), (68, .iload 6, 2), (70, .ireturn, 1)]
theorem dtX0_add : th_dec cX0_add tbX0_add = true := by decide +kernel
section
variable {p0 : Program} {l : Launch} {e : Env} {s : State} {m : MethodId} {args : Array Value} {below : List Frame} {meth : Method} {c : Code} {D : va_G} {cI cZ : ClassId} {ad : Nat → Nat} {rr : Int32} {hh : th_H}
set_option maxHeartbeats 4000000 in
set_option maxRecDepth 100000 in
theorem mX0_add (l : Launch) (p : Nat) (hp : isP p) (x1 : Int32) (x2 : Int32) (x3 : Int32) (x4 : Int32) (x5 : Int32) (h : th_H) (rr : Int32) (hh : th_H) (hf : fX0_add p x1 x2 x3 x4 x5 h = some (rr, hh)) : th_MI l LC yX0_add cX0_add 7 (some .int) 2 46 [.ref p, .int x1, .int x2, .int x3, .int x4, .int x5] h (some (.int rr)) hh := by
  refine th_MI_of (ls := [.ref p, .int x1, .int x2, .int x3, .int x4, .int x5, .null]) RX0 rfl rfl rfl (Nat.le_of_ble_eq_true rfl) ?_
  intro p0 e s m args below meth c D cI cZ ad X
  unfold fX0_add at hf
  refine V_aload_n (pc := 0) X (th_da dtX0_add 0 rfl) rfl ?_
  obtain ⟨u1, h1, e1, hf⟩ := th_bd_some hf
  refine V_callVi (pc := 1) (q := p) (As := []) X (th_da dtX0_add 1 rfl) (mX0_freeNumber l p hp _ _ _ e1) wcd_X0_freeNumber wml_X0_50 wim_X0_freeNumber wse_X0_freeNumber win_X0_freeNumber hd_X0_freeNumber ⟨Nat.le_of_ble_eq_true rfl, Nat.le_of_ble_eq_true rfl⟩ (Nat.le_of_ble_eq_true rfl) rfl (P_0 hp) rfl ?_
  refine V_istore (pc := 4) (ls2 := [.ref p, .int x1, .int x2, .int x3, .int x4, .int x5, .int u1]) X (th_da dtX0_add 2 rfl) (Nat.le_of_ble_eq_true rfl) rfl rfl ?_
  refine V_iload (pc := 6) X (th_da dtX0_add 3 rfl) rfl ?_
  refine V_iconst (pc := 8) (v := (-1)) X (th_da dtX0_add 4 rfl) (by decide) ?_
  refine V_icmp_ne (pc := 9) (tgt := 14) X (th_da dtX0_add 5 rfl) (by decide) (fun c2 => ?_) (fun c2 => ?_)
  · rw [if_pos c2] at hf
    refine V_iconst (pc := 12) (v := (-1)) X (th_da dtX0_add 6 rfl) (by decide) ?_
    exact V_iretF (pc := 13) X (th_da dtX0_add 7 rfl) hf
  · rw [if_neg c2] at hf
    refine V_aload_n (pc := 14) X (th_da dtX0_add 8 rfl) rfl ?_
    refine V_dup (pc := 15) X (th_da dtX0_add 9 rfl) rfl ?_
    refine V_getI (pc := 16) (j := 7) X (th_da dtX0_add 10 rfl) wfl_X0_39 iX0 rfl (P_0 hp) (Nat.le_of_ble_eq_true rfl) rfl ?_
    refine V_iconst (pc := 19) (v := 1) X (th_da dtX0_add 11 rfl) (by decide) ?_
    refine V_iload (pc := 20) X (th_da dtX0_add 12 rfl) rfl ?_
    refine V_ishl (pc := 22) X (th_da dtX0_add 13 rfl) ?_
    refine V_ior (pc := 23) X (th_da dtX0_add 14 rfl) ?_
    obtain ⟨h3, e3, hf⟩ := th_st_some hf
    refine V_putI (pc := 24) (j := 7) (ty := .int) X (th_da dtX0_add 15 rfl) wfl_X0_39 iX0 rfl (P_0 hp) (Nat.le_of_ble_eq_true rfl) rfl tyX0 tyX0_ok nmX0 rfl (tyX0_ok 7 (Nat.le_of_ble_eq_true rfl)) rfl rfl e3 ?_
    refine V_aload_n (pc := 27) X (th_da dtX0_add 16 rfl) rfl ?_
    refine V_getR (pc := 28) (j := 2) (t := (p + 3)) X (th_da dtX0_add 17 rfl) wfl_X0_18 iX0 rfl (P_0 hp) (Nat.le_of_ble_eq_true rfl) rfl ?_
    refine V_iload (pc := 31) X (th_da dtX0_add 18 rfl) rfl ?_
    refine V_iload_n (pc := 33) X (th_da dtX0_add 19 rfl) rfl ?_
    obtain ⟨h4, e4, g4, hf⟩ := th_wr_some hf
    refine V_iast (pc := 34) X (th_da dtX0_add 20 rfl) (P_3 hp) g4 e4 ?_
    refine V_aload_n (pc := 35) X (th_da dtX0_add 21 rfl) rfl ?_
    refine V_getR (pc := 36) (j := 4) (t := (p + 5)) X (th_da dtX0_add 22 rfl) wfl_X0_24 iX0 rfl (P_0 hp) (Nat.le_of_ble_eq_true rfl) rfl ?_
    refine V_iload (pc := 39) X (th_da dtX0_add 23 rfl) rfl ?_
    refine V_iload_n (pc := 41) X (th_da dtX0_add 24 rfl) rfl ?_
    obtain ⟨h5, e5, g5, hf⟩ := th_wr_some hf
    refine V_iast (pc := 42) X (th_da dtX0_add 25 rfl) (P_5 hp) g5 e5 ?_
    refine V_aload_n (pc := 43) X (th_da dtX0_add 26 rfl) rfl ?_
    refine V_getR (pc := 44) (j := 5) (t := (p + 6)) X (th_da dtX0_add 27 rfl) wfl_X0_27 iX0 rfl (P_0 hp) (Nat.le_of_ble_eq_true rfl) rfl ?_
    refine V_iload (pc := 47) X (th_da dtX0_add 28 rfl) rfl ?_
    refine V_iload (pc := 49) X (th_da dtX0_add 29 rfl) rfl ?_
    obtain ⟨h6, e6, g6, hf⟩ := th_wr_some hf
    refine V_iast (pc := 51) X (th_da dtX0_add 30 rfl) (P_6 hp) g6 e6 ?_
    refine V_aload_n (pc := 52) X (th_da dtX0_add 31 rfl) rfl ?_
    refine V_getR (pc := 53) (j := 6) (t := (p + 7)) X (th_da dtX0_add 32 rfl) wfl_X0_30 iX0 rfl (P_0 hp) (Nat.le_of_ble_eq_true rfl) rfl ?_
    refine V_iload (pc := 56) X (th_da dtX0_add 33 rfl) rfl ?_
    refine V_iload (pc := 58) X (th_da dtX0_add 34 rfl) rfl ?_
    obtain ⟨h7, e7, g7, hf⟩ := th_wr_some hf
    refine V_iast (pc := 60) X (th_da dtX0_add 35 rfl) (P_7 hp) g7 e7 ?_
    refine V_aload_n (pc := 61) X (th_da dtX0_add 36 rfl) rfl ?_
    refine V_iload (pc := 62) X (th_da dtX0_add 37 rfl) rfl ?_
    refine V_iload_n (pc := 64) X (th_da dtX0_add 38 rfl) rfl ?_
    obtain ⟨u8, h8, e8, hf⟩ := th_bd_some hf
    refine V_callVv (pc := 65) (q := p) (As := [.int u1, .int x2]) X (th_da dtX0_add 39 rfl) (mX0_setPath l p hp _ _ _ _ _ e8) wcd_X0_setPath wml_X0_54 wim_X0_setPath wse_X0_setPath win_X0_setPath hd_X0_setPath ⟨Nat.le_of_ble_eq_true rfl, Nat.le_of_ble_eq_true rfl⟩ (Nat.le_of_ble_eq_true rfl) rfl (P_0 hp) rfl ?_
    refine V_iload (pc := 68) X (th_da dtX0_add 40 rfl) rfl ?_
    exact V_iretF (pc := 70) X (th_da dtX0_add 41 rfl) hf
end
def fX0_remove (p : Nat) (x1 : Int32) (h : th_H) : Option (Unit × th_H) :=
  th_bd (fX0_setPath p x1 0 h) fun _u1 h1 =>
  th_st (th_up h1 p 7 ((h1.1 p 7) &&& (((1 : Int32) <<< (x1 &&& 31)) ^^^ (-1)))) fun h2 =>
  some ((), h2)
def tbX0_remove : List (Nat × Instr × Nat) := [(0, .aload_n 0, 1), (1, .iload_n 1, 1), (2, .iconst 0, 1), (3, .invokevirtual 54, 3), (6, .aload_n 0, 1), (7, .dup, 1), (8, .getfield 39, 3), (11, .iconst 1, 1), (12, .iload_n 1, 1), (13, .ishl, 1), (14, .iconst (-1), 1), (15, .ixor, 1), (16, .iand, 1), (17, .putfield 39, 3), (20, .return_, 1)]
theorem dtX0_remove : th_dec cX0_remove tbX0_remove = true := by decide +kernel
section
variable {p0 : Program} {l : Launch} {e : Env} {s : State} {m : MethodId} {args : Array Value} {below : List Frame} {meth : Method} {c : Code} {D : va_G} {cI cZ : ClassId} {ad : Nat → Nat} {rr : Unit} {hh : th_H}
set_option maxHeartbeats 4000000 in
set_option maxRecDepth 100000 in
theorem mX0_remove (l : Launch) (p : Nat) (hp : isP p) (x1 : Int32) (h : th_H) (rr : Unit) (hh : th_H) (hf : fX0_remove p x1 h = some (rr, hh)) : th_MI l LC yX0_remove cX0_remove 2 none 2 46 [.ref p, .int x1] h none hh := by
  refine th_MI_of (ls := [.ref p, .int x1]) RX0 rfl rfl rfl (Nat.le_of_ble_eq_true rfl) ?_
  intro p0 e s m args below meth c D cI cZ ad X
  unfold fX0_remove at hf
  refine V_aload_n (pc := 0) X (th_da dtX0_remove 0 rfl) rfl ?_
  refine V_iload_n (pc := 1) X (th_da dtX0_remove 1 rfl) rfl ?_
  refine V_iconst (pc := 2) (v := 0) X (th_da dtX0_remove 2 rfl) (by decide) ?_
  obtain ⟨u1, h1, e1, hf⟩ := th_bd_some hf
  refine V_callVv (pc := 3) (q := p) (As := [.int x1, .int 0]) X (th_da dtX0_remove 3 rfl) (mX0_setPath l p hp _ _ _ _ _ e1) wcd_X0_setPath wml_X0_54 wim_X0_setPath wse_X0_setPath win_X0_setPath hd_X0_setPath ⟨Nat.le_of_ble_eq_true rfl, Nat.le_of_ble_eq_true rfl⟩ (Nat.le_of_ble_eq_true rfl) rfl (P_0 hp) rfl ?_
  refine V_aload_n (pc := 6) X (th_da dtX0_remove 4 rfl) rfl ?_
  refine V_dup (pc := 7) X (th_da dtX0_remove 5 rfl) rfl ?_
  refine V_getI (pc := 8) (j := 7) X (th_da dtX0_remove 6 rfl) wfl_X0_39 iX0 rfl (P_0 hp) (Nat.le_of_ble_eq_true rfl) rfl ?_
  refine V_iconst (pc := 11) (v := 1) X (th_da dtX0_remove 7 rfl) (by decide) ?_
  refine V_iload_n (pc := 12) X (th_da dtX0_remove 8 rfl) rfl ?_
  refine V_ishl (pc := 13) X (th_da dtX0_remove 9 rfl) ?_
  refine V_iconst (pc := 14) (v := (-1)) X (th_da dtX0_remove 10 rfl) (by decide) ?_
  refine V_ixor (pc := 15) X (th_da dtX0_remove 11 rfl) ?_
  refine V_iand (pc := 16) X (th_da dtX0_remove 12 rfl) ?_
  obtain ⟨h2, e2, hf⟩ := th_st_some hf
  refine V_putI (pc := 17) (j := 7) (ty := .int) X (th_da dtX0_remove 13 rfl) wfl_X0_39 iX0 rfl (P_0 hp) (Nat.le_of_ble_eq_true rfl) rfl tyX0 tyX0_ok nmX0 rfl (tyX0_ok 7 (Nat.le_of_ble_eq_true rfl)) rfl rfl e2 ?_
  exact V_vretF (pc := 20) X (th_da dtX0_remove 14 rfl) hf
end
def fJ6_bitCount_0f7a4 (x0 : Int32) (h : th_H) : Option (Int32 × th_H) :=
  some ((((((((x0 - ((th_us x0 1) &&& 1431655765)) &&& 858993459) + ((th_us (x0 - ((th_us x0 1) &&& 1431655765)) 2) &&& 858993459)) + (th_us (((x0 - ((th_us x0 1) &&& 1431655765)) &&& 858993459) + ((th_us (x0 - ((th_us x0 1) &&& 1431655765)) 2) &&& 858993459)) 4)) &&& 252645135) + (th_us (((((x0 - ((th_us x0 1) &&& 1431655765)) &&& 858993459) + ((th_us (x0 - ((th_us x0 1) &&& 1431655765)) 2) &&& 858993459)) + (th_us (((x0 - ((th_us x0 1) &&& 1431655765)) &&& 858993459) + ((th_us (x0 - ((th_us x0 1) &&& 1431655765)) 2) &&& 858993459)) 4)) &&& 252645135) 8)) + (th_us ((((((x0 - ((th_us x0 1) &&& 1431655765)) &&& 858993459) + ((th_us (x0 - ((th_us x0 1) &&& 1431655765)) 2) &&& 858993459)) + (th_us (((x0 - ((th_us x0 1) &&& 1431655765)) &&& 858993459) + ((th_us (x0 - ((th_us x0 1) &&& 1431655765)) 2) &&& 858993459)) 4)) &&& 252645135) + (th_us (((((x0 - ((th_us x0 1) &&& 1431655765)) &&& 858993459) + ((th_us (x0 - ((th_us x0 1) &&& 1431655765)) 2) &&& 858993459)) + (th_us (((x0 - ((th_us x0 1) &&& 1431655765)) &&& 858993459) + ((th_us (x0 - ((th_us x0 1) &&& 1431655765)) 2) &&& 858993459)) 4)) &&& 252645135) 8)) 16)) &&& 63, h)
def tbJ6_bitCount_0f7a4 : List (Nat × Instr × Nat) := [(0, .iload_n 0, 1), (1, .iload_n 0, 1), (2, .iconst 1, 1), (3, .iushr, 1), (4, .ldc_w 265, 3), (7, .iand, 1), (8, .isub, 1), (9, .istore_n 0, 1), (10, .iload_n 0, 1), (11, .ldc_w 266, 3), (14, .iand, 1), (15, .iload_n 0, 1), (16, .iconst 2, 1), (17, .iushr, 1), (18, .ldc_w 266, 3), (21, .iand, 1), (22, .iadd, 1), (23, .istore_n 0, 1), (24, .iload_n 0, 1), (25, .iload_n 0, 1), (26, .iconst 4, 1), (27, .iushr, 1), (28, .iadd, 1), (29, .ldc_w 267, 3), (32, .iand, 1), (33, .istore_n 0, 1), (34, .iload_n 0, 1), (35, .iload_n 0, 1), (36, .bipush 8, 2), (38, .iushr, 1), (39, .iadd, 1), (40, .istore_n 0, 1), (41, .iload_n 0, 1), (42, .iload_n 0, 1), (43, .bipush 16, 2), (45, .iushr, 1), (46, .iadd, 1), (47, .istore_n 0, 1), (48, .iload_n 0, 1), (49, .bipush 63, 2), (51, .iand, 1), (52, .ireturn, 1)]
theorem dtJ6_bitCount_0f7a4 : th_dec cJ6_bitCount_0f7a4 tbJ6_bitCount_0f7a4 = true := by decide +kernel
section
variable {p0 : Program} {l : Launch} {e : Env} {s : State} {m : MethodId} {args : Array Value} {below : List Frame} {meth : Method} {c : Code} {D : va_G} {cI cZ : ClassId} {ad : Nat → Nat} {rr : Int32} {hh : th_H}
set_option maxHeartbeats 4000000 in
set_option maxRecDepth 100000 in
theorem mJ6_bitCount_0f7a4 (l : Launch) (x0 : Int32) (h : th_H) (rr : Int32) (hh : th_H) (hf : fJ6_bitCount_0f7a4 x0 h = some (rr, hh)) : th_MI l LC yJ6_bitCount_0f7a4 cJ6_bitCount_0f7a4 1 (some .int) 0 0 [.int x0] h (some (.int rr)) hh := by
  refine th_MI_of (ls := [.int x0]) RJ6 rfl rfl rfl (Nat.le_of_ble_eq_true rfl) ?_
  intro p0 e s m args below meth c D cI cZ ad X
  unfold fJ6_bitCount_0f7a4 at hf
  refine V_iload_n (pc := 0) X (th_da dtJ6_bitCount_0f7a4 0 rfl) rfl ?_
  refine V_iload_n (pc := 1) X (th_da dtJ6_bitCount_0f7a4 1 rfl) rfl ?_
  refine V_iconst (pc := 2) (v := 1) X (th_da dtJ6_bitCount_0f7a4 2 rfl) (by decide) ?_
  refine V_iushr (pc := 3) (v := th_us x0 1) X (th_da dtJ6_bitCount_0f7a4 3 rfl) rfl ?_
  refine V_ldcw (pc := 4) (v := 1431655765) X (th_da dtJ6_bitCount_0f7a4 4 rfl) wco_J6_265 ?_
  refine V_iand (pc := 7) X (th_da dtJ6_bitCount_0f7a4 5 rfl) ?_
  refine V_isub (pc := 8) X (th_da dtJ6_bitCount_0f7a4 6 rfl) ?_
  refine V_istore_n (pc := 9) (ls2 := [.int (x0 - ((th_us x0 1) &&& 1431655765))]) X (th_da dtJ6_bitCount_0f7a4 7 rfl) (Nat.le_of_ble_eq_true rfl) rfl rfl ?_
  refine V_iload_n (pc := 10) X (th_da dtJ6_bitCount_0f7a4 8 rfl) rfl ?_
  refine V_ldcw (pc := 11) (v := 858993459) X (th_da dtJ6_bitCount_0f7a4 9 rfl) wco_J6_266 ?_
  refine V_iand (pc := 14) X (th_da dtJ6_bitCount_0f7a4 10 rfl) ?_
  refine V_iload_n (pc := 15) X (th_da dtJ6_bitCount_0f7a4 11 rfl) rfl ?_
  refine V_iconst (pc := 16) (v := 2) X (th_da dtJ6_bitCount_0f7a4 12 rfl) (by decide) ?_
  refine V_iushr (pc := 17) (v := th_us (x0 - ((th_us x0 1) &&& 1431655765)) 2) X (th_da dtJ6_bitCount_0f7a4 13 rfl) rfl ?_
  refine V_ldcw (pc := 18) (v := 858993459) X (th_da dtJ6_bitCount_0f7a4 14 rfl) wco_J6_266 ?_
  refine V_iand (pc := 21) X (th_da dtJ6_bitCount_0f7a4 15 rfl) ?_
  refine V_iadd (pc := 22) X (th_da dtJ6_bitCount_0f7a4 16 rfl) ?_
  refine V_istore_n (pc := 23) (ls2 := [.int (((x0 - ((th_us x0 1) &&& 1431655765)) &&& 858993459) + ((th_us (x0 - ((th_us x0 1) &&& 1431655765)) 2) &&& 858993459))]) X (th_da dtJ6_bitCount_0f7a4 17 rfl) (Nat.le_of_ble_eq_true rfl) rfl rfl ?_
  refine V_iload_n (pc := 24) X (th_da dtJ6_bitCount_0f7a4 18 rfl) rfl ?_
  refine V_iload_n (pc := 25) X (th_da dtJ6_bitCount_0f7a4 19 rfl) rfl ?_
  refine V_iconst (pc := 26) (v := 4) X (th_da dtJ6_bitCount_0f7a4 20 rfl) (by decide) ?_
  refine V_iushr (pc := 27) (v := th_us (((x0 - ((th_us x0 1) &&& 1431655765)) &&& 858993459) + ((th_us (x0 - ((th_us x0 1) &&& 1431655765)) 2) &&& 858993459)) 4) X (th_da dtJ6_bitCount_0f7a4 21 rfl) rfl ?_
  refine V_iadd (pc := 28) X (th_da dtJ6_bitCount_0f7a4 22 rfl) ?_
  refine V_ldcw (pc := 29) (v := 252645135) X (th_da dtJ6_bitCount_0f7a4 23 rfl) wco_J6_267 ?_
  refine V_iand (pc := 32) X (th_da dtJ6_bitCount_0f7a4 24 rfl) ?_
  refine V_istore_n (pc := 33) (ls2 := [.int (((((x0 - ((th_us x0 1) &&& 1431655765)) &&& 858993459) + ((th_us (x0 - ((th_us x0 1) &&& 1431655765)) 2) &&& 858993459)) + (th_us (((x0 - ((th_us x0 1) &&& 1431655765)) &&& 858993459) + ((th_us (x0 - ((th_us x0 1) &&& 1431655765)) 2) &&& 858993459)) 4)) &&& 252645135)]) X (th_da dtJ6_bitCount_0f7a4 25 rfl) (Nat.le_of_ble_eq_true rfl) rfl rfl ?_
  refine V_iload_n (pc := 34) X (th_da dtJ6_bitCount_0f7a4 26 rfl) rfl ?_
  refine V_iload_n (pc := 35) X (th_da dtJ6_bitCount_0f7a4 27 rfl) rfl ?_
  refine V_bipush (pc := 36) (v := 8) X (th_da dtJ6_bitCount_0f7a4 28 rfl) (by decide) ?_
  refine V_iushr (pc := 38) (v := th_us (((((x0 - ((th_us x0 1) &&& 1431655765)) &&& 858993459) + ((th_us (x0 - ((th_us x0 1) &&& 1431655765)) 2) &&& 858993459)) + (th_us (((x0 - ((th_us x0 1) &&& 1431655765)) &&& 858993459) + ((th_us (x0 - ((th_us x0 1) &&& 1431655765)) 2) &&& 858993459)) 4)) &&& 252645135) 8) X (th_da dtJ6_bitCount_0f7a4 29 rfl) rfl ?_
  refine V_iadd (pc := 39) X (th_da dtJ6_bitCount_0f7a4 30 rfl) ?_
  refine V_istore_n (pc := 40) (ls2 := [.int ((((((x0 - ((th_us x0 1) &&& 1431655765)) &&& 858993459) + ((th_us (x0 - ((th_us x0 1) &&& 1431655765)) 2) &&& 858993459)) + (th_us (((x0 - ((th_us x0 1) &&& 1431655765)) &&& 858993459) + ((th_us (x0 - ((th_us x0 1) &&& 1431655765)) 2) &&& 858993459)) 4)) &&& 252645135) + (th_us (((((x0 - ((th_us x0 1) &&& 1431655765)) &&& 858993459) + ((th_us (x0 - ((th_us x0 1) &&& 1431655765)) 2) &&& 858993459)) + (th_us (((x0 - ((th_us x0 1) &&& 1431655765)) &&& 858993459) + ((th_us (x0 - ((th_us x0 1) &&& 1431655765)) 2) &&& 858993459)) 4)) &&& 252645135) 8))]) X (th_da dtJ6_bitCount_0f7a4 31 rfl) (Nat.le_of_ble_eq_true rfl) rfl rfl ?_
  refine V_iload_n (pc := 41) X (th_da dtJ6_bitCount_0f7a4 32 rfl) rfl ?_
  refine V_iload_n (pc := 42) X (th_da dtJ6_bitCount_0f7a4 33 rfl) rfl ?_
  refine V_bipush (pc := 43) (v := 16) X (th_da dtJ6_bitCount_0f7a4 34 rfl) (by decide) ?_
  refine V_iushr (pc := 45) (v := th_us ((((((x0 - ((th_us x0 1) &&& 1431655765)) &&& 858993459) + ((th_us (x0 - ((th_us x0 1) &&& 1431655765)) 2) &&& 858993459)) + (th_us (((x0 - ((th_us x0 1) &&& 1431655765)) &&& 858993459) + ((th_us (x0 - ((th_us x0 1) &&& 1431655765)) 2) &&& 858993459)) 4)) &&& 252645135) + (th_us (((((x0 - ((th_us x0 1) &&& 1431655765)) &&& 858993459) + ((th_us (x0 - ((th_us x0 1) &&& 1431655765)) 2) &&& 858993459)) + (th_us (((x0 - ((th_us x0 1) &&& 1431655765)) &&& 858993459) + ((th_us (x0 - ((th_us x0 1) &&& 1431655765)) 2) &&& 858993459)) 4)) &&& 252645135) 8)) 16) X (th_da dtJ6_bitCount_0f7a4 35 rfl) rfl ?_
  refine V_iadd (pc := 46) X (th_da dtJ6_bitCount_0f7a4 36 rfl) ?_
  refine V_istore_n (pc := 47) (ls2 := [.int (((((((x0 - ((th_us x0 1) &&& 1431655765)) &&& 858993459) + ((th_us (x0 - ((th_us x0 1) &&& 1431655765)) 2) &&& 858993459)) + (th_us (((x0 - ((th_us x0 1) &&& 1431655765)) &&& 858993459) + ((th_us (x0 - ((th_us x0 1) &&& 1431655765)) 2) &&& 858993459)) 4)) &&& 252645135) + (th_us (((((x0 - ((th_us x0 1) &&& 1431655765)) &&& 858993459) + ((th_us (x0 - ((th_us x0 1) &&& 1431655765)) 2) &&& 858993459)) + (th_us (((x0 - ((th_us x0 1) &&& 1431655765)) &&& 858993459) + ((th_us (x0 - ((th_us x0 1) &&& 1431655765)) 2) &&& 858993459)) 4)) &&& 252645135) 8)) + (th_us ((((((x0 - ((th_us x0 1) &&& 1431655765)) &&& 858993459) + ((th_us (x0 - ((th_us x0 1) &&& 1431655765)) 2) &&& 858993459)) + (th_us (((x0 - ((th_us x0 1) &&& 1431655765)) &&& 858993459) + ((th_us (x0 - ((th_us x0 1) &&& 1431655765)) 2) &&& 858993459)) 4)) &&& 252645135) + (th_us (((((x0 - ((th_us x0 1) &&& 1431655765)) &&& 858993459) + ((th_us (x0 - ((th_us x0 1) &&& 1431655765)) 2) &&& 858993459)) + (th_us (((x0 - ((th_us x0 1) &&& 1431655765)) &&& 858993459) + ((th_us (x0 - ((th_us x0 1) &&& 1431655765)) 2) &&& 858993459)) 4)) &&& 252645135) 8)) 16))]) X (th_da dtJ6_bitCount_0f7a4 37 rfl) (Nat.le_of_ble_eq_true rfl) rfl rfl ?_
  refine V_iload_n (pc := 48) X (th_da dtJ6_bitCount_0f7a4 38 rfl) rfl ?_
  refine V_bipush (pc := 49) (v := 63) X (th_da dtJ6_bitCount_0f7a4 39 rfl) (by decide) ?_
  refine V_iand (pc := 51) X (th_da dtJ6_bitCount_0f7a4 40 rfl) ?_
  exact V_iretF (pc := 52) X (th_da dtJ6_bitCount_0f7a4 41 rfl) hf
end
def fX0_partOf (p : Nat) (x1 : Int32) (x2 : Int32) (h : th_H) : Option (Int32 × th_H) :=
  if (x2 = 0 : Prop) then
    th_rd h (p + 5) 20 x1 fun v2 =>
    some (v2, h)
  else
    if (x2 = 1 : Prop) then
      th_rd h (p + 6) 20 x1 fun v4 =>
      some (v4, h)
    else
      th_rd h (p + 7) 20 x1 fun v5 =>
      some (v5, h)
def tbX0_partOf : List (Nat × Instr × Nat) := [(0, .iload_n 2, 1), (1, .ifCond .ne 10, 3), (4, .aload_n 0, 1), (5, .getfield 24, 3), (8, .iload_n 1, 1), (9, .iaload, 1), (10, .ireturn, 1), (11, .iload_n 2, 1), (12, .iconst 1, 1), (13, .if_icmp .ne 12, 3), (16, .aload_n 0, 1), (17, .getfield 27, 3), (20, .iload_n 1, 1), (21, .iaload, 1), (22, .goto 9, 3), (25, .aload_n 0, 1), (26, .getfield 30, 3), (29, .iload_n 1, 1), (30, .iaload, 1), (31, .ireturn, 1)]
theorem dtX0_partOf : th_dec cX0_partOf tbX0_partOf = true := by decide +kernel
section
variable {p0 : Program} {l : Launch} {e : Env} {s : State} {m : MethodId} {args : Array Value} {below : List Frame} {meth : Method} {c : Code} {D : va_G} {cI cZ : ClassId} {ad : Nat → Nat} {rr : Int32} {hh : th_H}
set_option maxHeartbeats 4000000 in
set_option maxRecDepth 100000 in
theorem mX0_partOf (l : Launch) (p : Nat) (hp : isP p) (x1 : Int32) (x2 : Int32) (h : th_H) (rr : Int32) (hh : th_H) (hf : fX0_partOf p x1 x2 h = some (rr, hh)) : th_MI l LC yX0_partOf cX0_partOf 3 (some .int) 0 0 [.ref p, .int x1, .int x2] h (some (.int rr)) hh := by
  refine th_MI_of (ls := [.ref p, .int x1, .int x2]) RX0 rfl rfl rfl (Nat.le_of_ble_eq_true rfl) ?_
  intro p0 e s m args below meth c D cI cZ ad X
  unfold fX0_partOf at hf
  refine V_iload_n (pc := 0) X (th_da dtX0_partOf 0 rfl) rfl ?_
  refine V_if_ne (pc := 1) (tgt := 11) X (th_da dtX0_partOf 1 rfl) (by decide) (fun c1 => ?_) (fun c1 => ?_)
  · rw [if_pos c1] at hf
    refine V_aload_n (pc := 4) X (th_da dtX0_partOf 2 rfl) rfl ?_
    refine V_getR (pc := 5) (j := 4) (t := (p + 5)) X (th_da dtX0_partOf 3 rfl) wfl_X0_24 iX0 rfl (P_0 hp) (Nat.le_of_ble_eq_true rfl) rfl ?_
    refine V_iload_n (pc := 8) X (th_da dtX0_partOf 4 rfl) rfl ?_
    obtain ⟨v2, e2, g2, hf⟩ := th_rd_some hf
    refine V_iald (pc := 9) X (th_da dtX0_partOf 5 rfl) (P_5 hp) g2 e2 ?_
    exact V_iretF (pc := 10) X (th_da dtX0_partOf 6 rfl) hf
  · rw [if_neg c1] at hf
    refine V_iload_n (pc := 11) X (th_da dtX0_partOf 7 rfl) rfl ?_
    refine V_iconst (pc := 12) (v := 1) X (th_da dtX0_partOf 8 rfl) (by decide) ?_
    refine V_icmp_ne (pc := 13) (tgt := 25) X (th_da dtX0_partOf 9 rfl) (by decide) (fun c3 => ?_) (fun c3 => ?_)
    · rw [if_pos c3] at hf
      refine V_aload_n (pc := 16) X (th_da dtX0_partOf 10 rfl) rfl ?_
      refine V_getR (pc := 17) (j := 5) (t := (p + 6)) X (th_da dtX0_partOf 11 rfl) wfl_X0_27 iX0 rfl (P_0 hp) (Nat.le_of_ble_eq_true rfl) rfl ?_
      refine V_iload_n (pc := 20) X (th_da dtX0_partOf 12 rfl) rfl ?_
      obtain ⟨v4, e4, g4, hf⟩ := th_rd_some hf
      refine V_iald (pc := 21) X (th_da dtX0_partOf 13 rfl) (P_6 hp) g4 e4 ?_
      refine V_goto (pc := 22) (tgt := 31) X (th_da dtX0_partOf 14 rfl) (by decide) ?_
      exact V_iretF (pc := 31) X (th_da dtX0_partOf 19 rfl) hf
    · rw [if_neg c3] at hf
      refine V_aload_n (pc := 25) X (th_da dtX0_partOf 15 rfl) rfl ?_
      refine V_getR (pc := 26) (j := 6) (t := (p + 7)) X (th_da dtX0_partOf 16 rfl) wfl_X0_30 iX0 rfl (P_0 hp) (Nat.le_of_ble_eq_true rfl) rfl ?_
      refine V_iload_n (pc := 29) X (th_da dtX0_partOf 17 rfl) rfl ?_
      obtain ⟨v5, e5, g5, hf⟩ := th_rd_some hf
      refine V_iald (pc := 30) X (th_da dtX0_partOf 18 rfl) (P_7 hp) g5 e5 ?_
      exact V_iretF (pc := 31) X (th_da dtX0_partOf 19 rfl) hf
end
def fX0_setPart (p : Nat) (x1 : Int32) (x2 : Int32) (x3 : Int32) (h : th_H) : Option (Unit × th_H) :=
  if (x2 = 0 : Prop) then
    th_wr h (p + 5) 20 x1 x3 fun h2 =>
    th_st (th_up h2 p 8 ((h2.1 p 8) + 1)) fun h3 =>
    some ((), h3)
  else
    if (x2 = 1 : Prop) then
      th_wr h (p + 6) 20 x1 x3 fun h5 =>
      th_st (th_up h5 p 8 ((h5.1 p 8) + 1)) fun h6 =>
      some ((), h6)
    else
      th_wr h (p + 7) 20 x1 x3 fun h7 =>
      th_st (th_up h7 p 8 ((h7.1 p 8) + 1)) fun h8 =>
      some ((), h8)
def tbX0_setPart : List (Nat × Instr × Nat) := [(0, .iload_n 2, 1), (1, .ifCond .ne 13, 3), (4, .aload_n 0, 1), (5, .getfield 24, 3), (8, .iload_n 1, 1), (9, .iload_n 3, 1), (10, .iastore, 1), (11, .goto 25, 3), (14, .iload_n 2, 1), (15, .iconst 1, 1), (16, .if_icmp .ne 13, 3), (19, .aload_n 0, 1), (20, .getfield 27, 3), (23, .iload_n 1, 1), (24, .iload_n 3, 1), (25, .iastore, 1), (26, .goto 10, 3), (29, .aload_n 0, 1), (30, .getfield 30, 3), (33, .iload_n 1, 1), (34, .iload_n 3, 1), (35, .iastore, 1), (36, .aload_n 0, 1), (37, .dup, 1), (38, .getfield 43, 3), (41, .iconst 1, 1), (42, .iadd, 1), (43, .putfield 43, 3), (46, .return_, 1)]
theorem dtX0_setPart : th_dec cX0_setPart tbX0_setPart = true := by decide +kernel
section
variable {p0 : Program} {l : Launch} {e : Env} {s : State} {m : MethodId} {args : Array Value} {below : List Frame} {meth : Method} {c : Code} {D : va_G} {cI cZ : ClassId} {ad : Nat → Nat} {rr : Unit} {hh : th_H}
set_option maxHeartbeats 4000000 in
set_option maxRecDepth 100000 in
theorem mX0_setPart (l : Launch) (p : Nat) (hp : isP p) (x1 : Int32) (x2 : Int32) (x3 : Int32) (h : th_H) (rr : Unit) (hh : th_H) (hf : fX0_setPart p x1 x2 x3 h = some (rr, hh)) : th_MI l LC yX0_setPart cX0_setPart 4 none 0 0 [.ref p, .int x1, .int x2, .int x3] h none hh := by
  refine th_MI_of (ls := [.ref p, .int x1, .int x2, .int x3]) RX0 rfl rfl rfl (Nat.le_of_ble_eq_true rfl) ?_
  intro p0 e s m args below meth c D cI cZ ad X
  unfold fX0_setPart at hf
  refine V_iload_n (pc := 0) X (th_da dtX0_setPart 0 rfl) rfl ?_
  refine V_if_ne (pc := 1) (tgt := 14) X (th_da dtX0_setPart 1 rfl) (by decide) (fun c1 => ?_) (fun c1 => ?_)
  · rw [if_pos c1] at hf
    refine V_aload_n (pc := 4) X (th_da dtX0_setPart 2 rfl) rfl ?_
    refine V_getR (pc := 5) (j := 4) (t := (p + 5)) X (th_da dtX0_setPart 3 rfl) wfl_X0_24 iX0 rfl (P_0 hp) (Nat.le_of_ble_eq_true rfl) rfl ?_
    refine V_iload_n (pc := 8) X (th_da dtX0_setPart 4 rfl) rfl ?_
    refine V_iload_n (pc := 9) X (th_da dtX0_setPart 5 rfl) rfl ?_
    obtain ⟨h2, e2, g2, hf⟩ := th_wr_some hf
    refine V_iast (pc := 10) X (th_da dtX0_setPart 6 rfl) (P_5 hp) g2 e2 ?_
    refine V_goto (pc := 11) (tgt := 36) X (th_da dtX0_setPart 7 rfl) (by decide) ?_
    refine V_aload_n (pc := 36) X (th_da dtX0_setPart 22 rfl) rfl ?_
    refine V_dup (pc := 37) X (th_da dtX0_setPart 23 rfl) rfl ?_
    refine V_getI (pc := 38) (j := 8) X (th_da dtX0_setPart 24 rfl) wfl_X0_43 iX0 rfl (P_0 hp) (Nat.le_of_ble_eq_true rfl) rfl ?_
    refine V_iconst (pc := 41) (v := 1) X (th_da dtX0_setPart 25 rfl) (by decide) ?_
    refine V_iadd (pc := 42) X (th_da dtX0_setPart 26 rfl) ?_
    obtain ⟨h3, e3, hf⟩ := th_st_some hf
    refine V_putI (pc := 43) (j := 8) (ty := .int) X (th_da dtX0_setPart 27 rfl) wfl_X0_43 iX0 rfl (P_0 hp) (Nat.le_of_ble_eq_true rfl) rfl tyX0 tyX0_ok nmX0 rfl (tyX0_ok 8 (Nat.le_of_ble_eq_true rfl)) rfl rfl e3 ?_
    exact V_vretF (pc := 46) X (th_da dtX0_setPart 28 rfl) hf
  · rw [if_neg c1] at hf
    refine V_iload_n (pc := 14) X (th_da dtX0_setPart 8 rfl) rfl ?_
    refine V_iconst (pc := 15) (v := 1) X (th_da dtX0_setPart 9 rfl) (by decide) ?_
    refine V_icmp_ne (pc := 16) (tgt := 29) X (th_da dtX0_setPart 10 rfl) (by decide) (fun c4 => ?_) (fun c4 => ?_)
    · rw [if_pos c4] at hf
      refine V_aload_n (pc := 19) X (th_da dtX0_setPart 11 rfl) rfl ?_
      refine V_getR (pc := 20) (j := 5) (t := (p + 6)) X (th_da dtX0_setPart 12 rfl) wfl_X0_27 iX0 rfl (P_0 hp) (Nat.le_of_ble_eq_true rfl) rfl ?_
      refine V_iload_n (pc := 23) X (th_da dtX0_setPart 13 rfl) rfl ?_
      refine V_iload_n (pc := 24) X (th_da dtX0_setPart 14 rfl) rfl ?_
      obtain ⟨h5, e5, g5, hf⟩ := th_wr_some hf
      refine V_iast (pc := 25) X (th_da dtX0_setPart 15 rfl) (P_6 hp) g5 e5 ?_
      refine V_goto (pc := 26) (tgt := 36) X (th_da dtX0_setPart 16 rfl) (by decide) ?_
      refine V_aload_n (pc := 36) X (th_da dtX0_setPart 22 rfl) rfl ?_
      refine V_dup (pc := 37) X (th_da dtX0_setPart 23 rfl) rfl ?_
      refine V_getI (pc := 38) (j := 8) X (th_da dtX0_setPart 24 rfl) wfl_X0_43 iX0 rfl (P_0 hp) (Nat.le_of_ble_eq_true rfl) rfl ?_
      refine V_iconst (pc := 41) (v := 1) X (th_da dtX0_setPart 25 rfl) (by decide) ?_
      refine V_iadd (pc := 42) X (th_da dtX0_setPart 26 rfl) ?_
      obtain ⟨h6, e6, hf⟩ := th_st_some hf
      refine V_putI (pc := 43) (j := 8) (ty := .int) X (th_da dtX0_setPart 27 rfl) wfl_X0_43 iX0 rfl (P_0 hp) (Nat.le_of_ble_eq_true rfl) rfl tyX0 tyX0_ok nmX0 rfl (tyX0_ok 8 (Nat.le_of_ble_eq_true rfl)) rfl rfl e6 ?_
      exact V_vretF (pc := 46) X (th_da dtX0_setPart 28 rfl) hf
    · rw [if_neg c4] at hf
      refine V_aload_n (pc := 29) X (th_da dtX0_setPart 17 rfl) rfl ?_
      refine V_getR (pc := 30) (j := 6) (t := (p + 7)) X (th_da dtX0_setPart 18 rfl) wfl_X0_30 iX0 rfl (P_0 hp) (Nat.le_of_ble_eq_true rfl) rfl ?_
      refine V_iload_n (pc := 33) X (th_da dtX0_setPart 19 rfl) rfl ?_
      refine V_iload_n (pc := 34) X (th_da dtX0_setPart 20 rfl) rfl ?_
      obtain ⟨h7, e7, g7, hf⟩ := th_wr_some hf
      refine V_iast (pc := 35) X (th_da dtX0_setPart 21 rfl) (P_7 hp) g7 e7 ?_
      refine V_aload_n (pc := 36) X (th_da dtX0_setPart 22 rfl) rfl ?_
      refine V_dup (pc := 37) X (th_da dtX0_setPart 23 rfl) rfl ?_
      refine V_getI (pc := 38) (j := 8) X (th_da dtX0_setPart 24 rfl) wfl_X0_43 iX0 rfl (P_0 hp) (Nat.le_of_ble_eq_true rfl) rfl ?_
      refine V_iconst (pc := 41) (v := 1) X (th_da dtX0_setPart 25 rfl) (by decide) ?_
      refine V_iadd (pc := 42) X (th_da dtX0_setPart 26 rfl) ?_
      obtain ⟨h8, e8, hf⟩ := th_st_some hf
      refine V_putI (pc := 43) (j := 8) (ty := .int) X (th_da dtX0_setPart 27 rfl) wfl_X0_43 iX0 rfl (P_0 hp) (Nat.le_of_ble_eq_true rfl) rfl tyX0 tyX0_ok nmX0 rfl (tyX0_ok 8 (Nat.le_of_ble_eq_true rfl)) rfl rfl e8 ?_
      exact V_vretF (pc := 46) X (th_da dtX0_setPart 28 rfl) hf
end
def fX0_byWeight (p : Nat) (x1 : Int32) (x2 : Int32) (h : th_H) : Option (Int32 × th_H) :=
  th_rd h (p + 5) 20 x1 fun v1 =>
  if (v1 < 1 : Prop) then
    some (0, h)
  else
    th_rd h (p + 5) 20 x1 fun v3 =>
    th_dv v3 <|
    some (x2 / v3, h)
def tbX0_byWeight : List (Nat × Instr × Nat) := [(0, .aload_n 0, 1), (1, .getfield 24, 3), (4, .iload_n 1, 1), (5, .iaload, 1), (6, .iconst 1, 1), (7, .if_icmp .ge 7, 3), (10, .iconst 0, 1), (11, .goto 11, 3), (14, .iload_n 2, 1), (15, .aload_n 0, 1), (16, .getfield 24, 3), (19, .iload_n 1, 1), (20, .iaload, 1), (21, .idiv, 1), (22, .ireturn, 1)]
theorem dtX0_byWeight : th_dec cX0_byWeight tbX0_byWeight = true := by decide +kernel
section
variable {p0 : Program} {l : Launch} {e : Env} {s : State} {m : MethodId} {args : Array Value} {below : List Frame} {meth : Method} {c : Code} {D : va_G} {cI cZ : ClassId} {ad : Nat → Nat} {rr : Int32} {hh : th_H}
set_option maxHeartbeats 4000000 in
set_option maxRecDepth 100000 in
theorem mX0_byWeight (l : Launch) (p : Nat) (hp : isP p) (x1 : Int32) (x2 : Int32) (h : th_H) (rr : Int32) (hh : th_H) (hf : fX0_byWeight p x1 x2 h = some (rr, hh)) : th_MI l LC yX0_byWeight cX0_byWeight 3 (some .int) 0 0 [.ref p, .int x1, .int x2] h (some (.int rr)) hh := by
  refine th_MI_of (ls := [.ref p, .int x1, .int x2]) RX0 rfl rfl rfl (Nat.le_of_ble_eq_true rfl) ?_
  intro p0 e s m args below meth c D cI cZ ad X
  unfold fX0_byWeight at hf
  refine V_aload_n (pc := 0) X (th_da dtX0_byWeight 0 rfl) rfl ?_
  refine V_getR (pc := 1) (j := 4) (t := (p + 5)) X (th_da dtX0_byWeight 1 rfl) wfl_X0_24 iX0 rfl (P_0 hp) (Nat.le_of_ble_eq_true rfl) rfl ?_
  refine V_iload_n (pc := 4) X (th_da dtX0_byWeight 2 rfl) rfl ?_
  obtain ⟨v1, e1, g1, hf⟩ := th_rd_some hf
  refine V_iald (pc := 5) X (th_da dtX0_byWeight 3 rfl) (P_5 hp) g1 e1 ?_
  refine V_iconst (pc := 6) (v := 1) X (th_da dtX0_byWeight 4 rfl) (by decide) ?_
  refine V_icmp_ge (pc := 7) (tgt := 14) X (th_da dtX0_byWeight 5 rfl) (by decide) (fun c2 => ?_) (fun c2 => ?_)
  · rw [if_pos c2] at hf
    refine V_iconst (pc := 10) (v := 0) X (th_da dtX0_byWeight 6 rfl) (by decide) ?_
    refine V_goto (pc := 11) (tgt := 22) X (th_da dtX0_byWeight 7 rfl) (by decide) ?_
    exact V_iretF (pc := 22) X (th_da dtX0_byWeight 14 rfl) hf
  · rw [if_neg c2] at hf
    refine V_iload_n (pc := 14) X (th_da dtX0_byWeight 8 rfl) rfl ?_
    refine V_aload_n (pc := 15) X (th_da dtX0_byWeight 9 rfl) rfl ?_
    refine V_getR (pc := 16) (j := 4) (t := (p + 5)) X (th_da dtX0_byWeight 10 rfl) wfl_X0_24 iX0 rfl (P_0 hp) (Nat.le_of_ble_eq_true rfl) rfl ?_
    refine V_iload_n (pc := 19) X (th_da dtX0_byWeight 11 rfl) rfl ?_
    obtain ⟨v3, e3, g3, hf⟩ := th_rd_some hf
    refine V_iald (pc := 20) X (th_da dtX0_byWeight 12 rfl) (P_5 hp) g3 e3 ?_
    obtain ⟨g4, hf⟩ := th_dv_some hf
    refine V_idiv (pc := 21) X (th_da dtX0_byWeight 13 rfl) g4 ?_
    exact V_iretF (pc := 22) X (th_da dtX0_byWeight 14 rfl) hf
end
def fX0_ownOf (p : Nat) (x1 : Int32) (h : th_H) : Option (Int32 × th_H) :=
  th_rd h (p + 7) 20 x1 fun v1 =>
  th_bd (fX0_byWeight p x1 v1 h) fun u2 h2 =>
  some (u2, h2)
def tbX0_ownOf : List (Nat × Instr × Nat) := [(0, .aload_n 0, 1), (1, .iload_n 1, 1), (2, .aload_n 0, 1), (3, .getfield 30, 3), (6, .iload_n 1, 1), (7, .iaload, 1), (8, .invokevirtual 66, 3), (11, .ireturn, 1)]
theorem dtX0_ownOf : th_dec cX0_ownOf tbX0_ownOf = true := by decide +kernel
section
variable {p0 : Program} {l : Launch} {e : Env} {s : State} {m : MethodId} {args : Array Value} {below : List Frame} {meth : Method} {c : Code} {D : va_G} {cI cZ : ClassId} {ad : Nat → Nat} {rr : Int32} {hh : th_H}
set_option maxHeartbeats 4000000 in
set_option maxRecDepth 100000 in
theorem mX0_ownOf (l : Launch) (p : Nat) (hp : isP p) (x1 : Int32) (h : th_H) (rr : Int32) (hh : th_H) (hf : fX0_ownOf p x1 h = some (rr, hh)) : th_MI l LC yX0_ownOf cX0_ownOf 2 (some .int) 1 22 [.ref p, .int x1] h (some (.int rr)) hh := by
  refine th_MI_of (ls := [.ref p, .int x1]) RX0 rfl rfl rfl (Nat.le_of_ble_eq_true rfl) ?_
  intro p0 e s m args below meth c D cI cZ ad X
  unfold fX0_ownOf at hf
  refine V_aload_n (pc := 0) X (th_da dtX0_ownOf 0 rfl) rfl ?_
  refine V_iload_n (pc := 1) X (th_da dtX0_ownOf 1 rfl) rfl ?_
  refine V_aload_n (pc := 2) X (th_da dtX0_ownOf 2 rfl) rfl ?_
  refine V_getR (pc := 3) (j := 6) (t := (p + 7)) X (th_da dtX0_ownOf 3 rfl) wfl_X0_30 iX0 rfl (P_0 hp) (Nat.le_of_ble_eq_true rfl) rfl ?_
  refine V_iload_n (pc := 6) X (th_da dtX0_ownOf 4 rfl) rfl ?_
  obtain ⟨v1, e1, g1, hf⟩ := th_rd_some hf
  refine V_iald (pc := 7) X (th_da dtX0_ownOf 5 rfl) (P_7 hp) g1 e1 ?_
  obtain ⟨u2, h2, e2, hf⟩ := th_bd_some hf
  refine V_callVi (pc := 8) (q := p) (As := [.int x1, .int v1]) X (th_da dtX0_ownOf 6 rfl) (mX0_byWeight l p hp _ _ _ _ _ e2) wcd_X0_byWeight wml_X0_66 wim_X0_byWeight wse_X0_byWeight win_X0_byWeight hd_X0_byWeight ⟨Nat.le_of_ble_eq_true rfl, Nat.le_of_ble_eq_true rfl⟩ (Nat.le_of_ble_eq_true rfl) rfl (P_0 hp) rfl ?_
  exact V_iretF (pc := 11) X (th_da dtX0_ownOf 7 rfl) hf
end
def fJ7_fill_53178_c5 (a : Nat) (na : Nat) : Nat → Int32 → Int32 → Int32 → th_H → Option (Unit × th_H)
  | 0, _, _, _, _ => none
  | n + 1, y1, y2, y3, h =>
    if (y2 < y3 : Prop) then
      th_wr h a na y2 y1 fun h2 =>
      fJ7_fill_53178_c5 a na n y1 (y2 + 1) y3 h2
    else
      some ((), h)
def fJ7_fill_53178 (a : Nat) (na : Nat) (x1 : Int32) (h : th_H) : Option (Unit × th_H) :=
  fJ7_fill_53178_c5 a na 1000 x1 0 (Int32.ofNat na) h
def tbJ7_fill_53178 : List (Nat × Instr × Nat) := [(0, .iconst 0, 1), (1, .istore_n 2, 1), (2, .aload_n 0, 1), (3, .arraylength, 1), (4, .istore_n 3, 1), (5, .iload_n 2, 1), (6, .iload_n 3, 1), (7, .if_icmp .ge 13, 3), (10, .aload_n 0, 1), (11, .iload_n 2, 1), (12, .iload_n 1, 1), (13, .iastore, 1), (14, .iinc 2 1, 3), (17, .goto (-12), 3), (20, .return_, 1)]
theorem dtJ7_fill_53178 : th_dec cJ7_fill_53178 tbJ7_fill_53178 = true := by decide +kernel
section
variable {p0 : Program} {l : Launch} {e : Env} {s : State} {m : MethodId} {args : Array Value} {below : List Frame} {meth : Method} {c : Code} {D : va_G} {cI cZ : ClassId} {ad : Nat → Nat} {rr : Unit} {hh : th_H}
set_option maxHeartbeats 4000000 in
set_option maxRecDepth 100000 in
theorem tJ7_fill_53178_c5 (X : th_X p0 s m args meth c D cI cZ ad LC 4 RJ7 cJ7_fill_53178 none) (a : Nat) (na : Nat) (ha : LC[a]? = some (.inl (na, false))) : ∀ (n : Nat) (y1 : Int32) (y2 : Int32) (y3 : Int32) (h : th_H), fJ7_fill_53178_c5 a na n y1 y2 y3 h = some (rr, hh) → th_V p0 l e { frames := 0, cells := 0, slots := 0, locals := 0 } s m args below meth c D cI cZ ad LC 4 none hh 5 [.ref a, .int y1, .int y2, .int y3] [] h := by
  intro n
  induction n with
  | zero => intro y1 y2 y3 h hf; cases hf
  | succ n ih =>
    intro y1 y2 y3 h hf
    rw [fJ7_fill_53178_c5] at hf
    refine V_iload_n (pc := 5) X (th_da dtJ7_fill_53178 5 rfl) rfl ?_
    refine V_iload_n (pc := 6) X (th_da dtJ7_fill_53178 6 rfl) rfl ?_
    refine V_icmp_ge (pc := 7) (tgt := 20) X (th_da dtJ7_fill_53178 7 rfl) (by decide) (fun c1 => ?_) (fun c1 => ?_)
    · rw [if_pos c1] at hf
      refine V_aload_n (pc := 10) X (th_da dtJ7_fill_53178 8 rfl) rfl ?_
      refine V_iload_n (pc := 11) X (th_da dtJ7_fill_53178 9 rfl) rfl ?_
      refine V_iload_n (pc := 12) X (th_da dtJ7_fill_53178 10 rfl) rfl ?_
      obtain ⟨h2, e2, g2, hf⟩ := th_wr_some hf
      refine V_iast (pc := 13) X (th_da dtJ7_fill_53178 11 rfl) ha g2 e2 ?_
      refine V_iinc (pc := 14) (v := y2 + 1) (ls2 := [.ref a, .int y1, .int (y2 + 1), .int y3]) X (th_da dtJ7_fill_53178 12 rfl) rfl rfl (Nat.le_of_ble_eq_true rfl) rfl rfl ?_
      refine V_goto (pc := 17) (tgt := 5) X (th_da dtJ7_fill_53178 13 rfl) (by decide) ?_
      exact ih _ _ _ _ hf
    · rw [if_neg c1] at hf
      exact V_vretF (pc := 20) X (th_da dtJ7_fill_53178 14 rfl) hf
set_option maxHeartbeats 4000000 in
set_option maxRecDepth 100000 in
theorem mJ7_fill_53178 (l : Launch) (a : Nat) (na : Nat) (ha : LC[a]? = some (.inl (na, false))) (x1 : Int32) (h : th_H) (rr : Unit) (hh : th_H) (hf : fJ7_fill_53178 a na x1 h = some (rr, hh)) : th_MI l LC yJ7_fill_53178 cJ7_fill_53178 4 none 0 0 [.ref a, .int x1] h none hh := by
  refine th_MI_of (ls := [.ref a, .int x1, .null, .null]) RJ7 rfl rfl rfl (Nat.le_of_ble_eq_true rfl) ?_
  intro p0 e s m args below meth c D cI cZ ad X
  unfold fJ7_fill_53178 at hf
  refine V_iconst (pc := 0) (v := 0) X (th_da dtJ7_fill_53178 0 rfl) (by decide) ?_
  refine V_istore_n (pc := 1) (ls2 := [.ref a, .int x1, .int 0, .null]) X (th_da dtJ7_fill_53178 1 rfl) (Nat.le_of_ble_eq_true rfl) rfl rfl ?_
  refine V_aload_n (pc := 2) X (th_da dtJ7_fill_53178 2 rfl) rfl ?_
  refine V_alen (pc := 3) (v := (Int32.ofNat na)) X (th_da dtJ7_fill_53178 3 rfl) ha rfl ?_
  refine V_istore_n (pc := 4) (ls2 := [.ref a, .int x1, .int 0, .int (Int32.ofNat na)]) X (th_da dtJ7_fill_53178 4 rfl) (Nat.le_of_ble_eq_true rfl) rfl rfl ?_
  exact tJ7_fill_53178_c5 X _ _ ha _ _ _ _ _ hf
end
def fX0_rateBy (p : Nat) (x1 : Int32) (x2 : Int32) (h : th_H) : Option (Int32 × th_H) :=
  th_rd h (p + 5) 20 x1 fun v1 =>
  th_rd h (p + 6) 20 x1 fun v2 =>
  some (th_mx (v1 * x2) v2, h)
def tbX0_rateBy : List (Nat × Instr × Nat) := [(0, .aload_n 0, 1), (1, .getfield 24, 3), (4, .iload_n 1, 1), (5, .iaload, 1), (6, .iload_n 2, 1), (7, .imul, 1), (8, .aload_n 0, 1), (9, .getfield 27, 3), (12, .iload_n 1, 1), (13, .iaload, 1), (14, .invokestatic 70, 3), (17, .ireturn, 1)]
theorem dtX0_rateBy : th_dec cX0_rateBy tbX0_rateBy = true := by decide +kernel
section
variable {p0 : Program} {l : Launch} {e : Env} {s : State} {m : MethodId} {args : Array Value} {below : List Frame} {meth : Method} {c : Code} {D : va_G} {cI cZ : ClassId} {ad : Nat → Nat} {rr : Int32} {hh : th_H}
set_option maxHeartbeats 4000000 in
set_option maxRecDepth 100000 in
theorem mX0_rateBy (l : Launch) (p : Nat) (hp : isP p) (x1 : Int32) (x2 : Int32) (h : th_H) (rr : Int32) (hh : th_H) (hf : fX0_rateBy p x1 x2 h = some (rr, hh)) : th_MI l LC yX0_rateBy cX0_rateBy 3 (some .int) 1 21 [.ref p, .int x1, .int x2] h (some (.int rr)) hh := by
  refine th_MI_of (ls := [.ref p, .int x1, .int x2]) RX0 rfl rfl rfl (Nat.le_of_ble_eq_true rfl) ?_
  intro p0 e s m args below meth c D cI cZ ad X
  unfold fX0_rateBy at hf
  refine V_aload_n (pc := 0) X (th_da dtX0_rateBy 0 rfl) rfl ?_
  refine V_getR (pc := 1) (j := 4) (t := (p + 5)) X (th_da dtX0_rateBy 1 rfl) wfl_X0_24 iX0 rfl (P_0 hp) (Nat.le_of_ble_eq_true rfl) rfl ?_
  refine V_iload_n (pc := 4) X (th_da dtX0_rateBy 2 rfl) rfl ?_
  obtain ⟨v1, e1, g1, hf⟩ := th_rd_some hf
  refine V_iald (pc := 5) X (th_da dtX0_rateBy 3 rfl) (P_5 hp) g1 e1 ?_
  refine V_iload_n (pc := 6) X (th_da dtX0_rateBy 4 rfl) rfl ?_
  refine V_imul (pc := 7) X (th_da dtX0_rateBy 5 rfl) ?_
  refine V_aload_n (pc := 8) X (th_da dtX0_rateBy 6 rfl) rfl ?_
  refine V_getR (pc := 9) (j := 5) (t := (p + 6)) X (th_da dtX0_rateBy 7 rfl) wfl_X0_27 iX0 rfl (P_0 hp) (Nat.le_of_ble_eq_true rfl) rfl ?_
  refine V_iload_n (pc := 12) X (th_da dtX0_rateBy 8 rfl) rfl ?_
  obtain ⟨v2, e2, g2, hf⟩ := th_rd_some hf
  refine V_iald (pc := 13) X (th_da dtX0_rateBy 9 rfl) (P_6 hp) g2 e2 ?_
  refine V_mmax (pc := 14) X (th_da dtX0_rateBy 10 rfl) wml_X0_70 wst_J9_max_7cf53 win_J9_max_7cf53 wcd_J9_max_7cf53 (Nat.le_of_ble_eq_true rfl) (Nat.le_of_ble_eq_true rfl) ?_
  exact V_iretF (pc := 17) X (th_da dtX0_rateBy 11 rfl) hf
end
def fX0_greatestLevel_c209 (p : Nat) (a : Nat) (k13 : Int32 → Int32 → Int32 → Int32 → th_H → Option (Int32 × th_H)) (y1 : Int32) (y3 : Int32) (y5 : Int32) (y8 : Int32) (z0 : Int32) (h : th_H) : Option (Int32 × th_H) :=
  if (z0 < y8 : Prop) then
    some (z0, h)
  else
    k13 y1 y3 y8 (y5 + 1) h
def fX0_greatestLevel_c40 (p : Nat) (a : Nat) (k13 : Int32 → Int32 → Int32 → Int32 → th_H → Option (Int32 × th_H)) : Nat → Int32 → Int32 → Int32 → Int32 → Int32 → Int32 → Int32 → Int32 → th_H → Option (Int32 × th_H)
  | 0, _, _, _, _, _, _, _, _, _ => none
  | n + 1, y1, y3, y4, y5, y6, y7, y8, y9, h =>
    if (y9 < 20 : Prop) then
      if (((y3 >>> (y9 &&& 31)) &&& 1) = 0 : Prop) then
        fX0_greatestLevel_c40 p a k13 n y1 y3 y4 y5 y6 y7 y8 (y9 + 1) h
      else
        th_rd h (p + 6) 20 y9 fun v3 =>
        th_bd (fX0_byWeight p y9 v3 h) fun u4 h4 =>
        th_rd h4 a 20 y9 fun v5 =>
        if (y4 < v5 : Prop) then
          if (y4 < u4 : Prop) then
            th_rd h4 (p + 6) 20 y9 fun v8 =>
            th_rd h4 a 20 y9 fun v9 =>
            fX0_greatestLevel_c40 p a k13 n y1 y3 y4 y5 (y6 + v8) y7 (th_mn y8 (th_mn u4 v9)) (y9 + 1) h4
          else
            th_rd h4 (p + 5) 20 y9 fun v10 =>
            th_rd h4 (p + 5) 20 y9 fun v11 =>
            th_rd h4 a 20 y9 fun v12 =>
            fX0_greatestLevel_c40 p a k13 n y1 y3 y4 y5 (y6 + (v10 * y4)) (y7 + v11) (th_mn y8 v12) (y9 + 1) h4
        else
          th_rd h4 a 20 y9 fun v13 =>
          th_bd (fX0_rateBy p y9 v13 h4) fun u14 h14 =>
          fX0_greatestLevel_c40 p a k13 n y1 y3 y4 y5 (y6 + u14) y7 y8 (y9 + 1) h14
    else
      if (y7 < 1 : Prop) then
        fX0_greatestLevel_c209 p a k13 y1 y3 y5 y8 1000000 h
      else
        th_rd h (p + 1) 10 y1 fun v16 =>
        th_dv y7 <|
        fX0_greatestLevel_c209 p a k13 y1 y3 y5 y8 (y4 + ((v16 - y6) / y7)) h
def fX0_greatestLevel_c13 (p : Nat) (a : Nat) : Nat → Int32 → Int32 → Int32 → Int32 → th_H → Option (Int32 × th_H)
  | 0, _, _, _, _, _ => none
  | n + 1, y1, y3, y4, y5, h =>
    if (40 < y5 : Prop) then
      some (y4, h)
    else
      if (y4 < 1000000 : Prop) then
        fX0_greatestLevel_c40 p a (fX0_greatestLevel_c13 p a n) 1000 y1 y3 y4 y5 0 0 1000000 0 h
      else
        some (y4, h)
def fX0_greatestLevel (p : Nat) (a : Nat) (x1 : Int32) (h : th_H) : Option (Int32 × th_H) :=
  th_rd h (p + 2) 10 x1 fun v1 =>
  fX0_greatestLevel_c13 p a 1000 x1 v1 0 0 h
def tbX0_greatestLevel : List (Nat × Instr × Nat) := [(0, .aload_n 0, 1), (1, .getfield 15, 3), (4, .iload_n 1, 1), (5, .iaload, 1), (6, .istore_n 3, 1), (7, .iconst 0, 1), (8, .istore 4, 2), (10, .iconst 0, 1), (11, .istore 5, 2), (13, .iload 5, 2), (15, .bipush 40, 2), (17, .if_icmp .gt 214, 3), (20, .iload 4, 2), (22, .ldc 75, 2), (24, .if_icmp .ge 207, 3), (27, .iconst 0, 1), (28, .istore 6, 2), (30, .iconst 0, 1), (31, .istore 7, 2), (33, .ldc 75, 2), (35, .istore 8, 2), (37, .iconst 0, 1), (38, .istore 9, 2), (40, .iload 9, 2), (42, .bipush 20, 2), (44, .if_icmp .ge 139, 3), (47, .iload_n 3, 1), (48, .iload 9, 2), (50, .ishr, 1), (51, .iconst 1, 1), (52, .iand, 1), (53, .ifCond .ne 6, 3), (56, .goto 121, 3), (59, .aload_n 0, 1), (60, .iload 9, 2), (62, .aload_n 0, 1), (63, .getfield 27, 3), (66, .iload 9, 2), (68, .iaload, 1), (69, .invokevirtual 66, 3), (72, .istore 10, 2), (74, .iload 4, 2), (76, .aload_n 2, 1), (77, .iload 9, 2), (79, .iaload, 1), (80, .if_icmp .lt 21, 3), (83, .iload 6, 2), (85, .aload_n 0, 1), (86, .iload 9, 2), (88, .aload_n 2, 1), (89, .iload 9, 2), (91, .iaload, 1), (92, .invokevirtual 76, 3), (95, .iadd, 1), (96, .istore 6, 2), (98, .goto 79, 3), (101, .iload 4, 2), (103, .iload 10, 2), (105, .if_icmp .lt 44, 3), (108, .iload 6, 2), (110, .aload_n 0, 1), (111, .getfield 24, 3), (114, .iload 9, 2), (116, .iaload, 1), (117, .iload 4, 2), (119, .imul, 1), (120, .iadd, 1), (121, .istore 6, 2), (123, .iload 7, 2), (125, .aload_n 0, 1), (126, .getfield 24, 3), (129, .iload 9, 2), (131, .iaload, 1), (132, .iadd, 1), (133, .istore 7, 2), (135, .iload 8, 2), (137, .aload_n 2, 1), (138, .iload 9, 2), (140, .iaload, 1), (141, .invokestatic 79, 3), (144, .istore 8, 2), (146, .goto 31, 3), (149, .iload 6, 2), (151, .aload_n 0, 1), (152, .getfield 27, 3), (155, .iload 9, 2), (157, .iaload, 1), (158, .iadd, 1), (159, .istore 6, 2), (161, .iload 8, 2), (163, .iload 10, 2), (165, .aload_n 2, 1), (166, .iload 9, 2), (168, .iaload, 1), (169, .invokestatic 79, 3), (172, .invokestatic 79, 3), (175, .istore 8, 2), (177, .iinc 9 1, 3), (180, .goto (-140), 3), (183, .iload 7, 2), (185, .iconst 1, 1), (186, .if_icmp .ge 8, 3), (189, .ldc 75, 2), (191, .goto 18, 3), (194, .iload 4, 2), (196, .aload_n 0, 1), (197, .getfield 9, 3), (200, .iload_n 1, 1), (201, .iaload, 1), (202, .iload 6, 2), (204, .isub, 1), (205, .iload 7, 2), (207, .idiv, 1), (208, .iadd, 1), (209, .istore 9, 2), (211, .iload 9, 2), (213, .iload 8, 2), (215, .if_icmp .ge 6, 3), (218, .iload 9, 2), (220, .ireturn, 1), (221, .iload 8, 2), (223, .istore 4, 2), (225, .iinc 5 1, 3), (228, .goto (-215), 3), (231, .iload 4, 2), (233, .ireturn, 1)]
theorem dtX0_greatestLevel : th_dec cX0_greatestLevel tbX0_greatestLevel = true := by decide +kernel
section
variable {p0 : Program} {l : Launch} {e : Env} {s : State} {m : MethodId} {args : Array Value} {below : List Frame} {meth : Method} {c : Code} {D : va_G} {cI cZ : ClassId} {ad : Nat → Nat} {rr : Int32} {hh : th_H}
set_option maxHeartbeats 4000000 in
set_option maxRecDepth 100000 in
theorem tX0_greatestLevel_c209 (X : th_X p0 s m args meth c D cI cZ ad LC 11 RX0 cX0_greatestLevel (some .int)) (p : Nat) (a : Nat) (hp : isP p) (ha : LC[a]? = some (.inl (20, false))) (k13 : Int32 → Int32 → Int32 → Int32 → th_H → Option (Int32 × th_H)) (hk13 : ∀ (y1 : Int32) (y3 : Int32) (y4 : Int32) (y5 : Int32) (h : th_H), k13 y1 y3 y4 y5 h = some (rr, hh) → th_V p0 l e { frames := 2, cells := 0, slots := 0, locals := 43 } s m args below meth c D cI cZ ad LC 11 (some (.int rr)) hh 13 [.ref p, .int y1, .ref a, .int y3, .int y4, .int y5, .null, .null, .null, .null, .null] [] h) (y1 : Int32) (y3 : Int32) (y5 : Int32) (y8 : Int32) (z0 : Int32) (h : th_H) (hf : fX0_greatestLevel_c209 p a k13 y1 y3 y5 y8 z0 h = some (rr, hh)) : th_V p0 l e { frames := 2, cells := 0, slots := 0, locals := 43 } s m args below meth c D cI cZ ad LC 11 (some (.int rr)) hh 209 [.ref p, .int y1, .ref a, .int y3, .null, .int y5, .null, .null, .int y8, .null, .null] [.int z0] h := by
  unfold fX0_greatestLevel_c209 at hf
  refine V_istore (pc := 209) (ls2 := [.ref p, .int y1, .ref a, .int y3, .null, .int y5, .null, .null, .int y8, .int z0, .null]) X (th_da dtX0_greatestLevel 114 rfl) (Nat.le_of_ble_eq_true rfl) rfl rfl ?_
  refine V_iload (pc := 211) X (th_da dtX0_greatestLevel 115 rfl) rfl ?_
  refine V_iload (pc := 213) X (th_da dtX0_greatestLevel 116 rfl) rfl ?_
  refine V_icmp_ge (pc := 215) (tgt := 221) X (th_da dtX0_greatestLevel 117 rfl) (by decide) (fun c1 => ?_) (fun c1 => ?_)
  · rw [if_pos c1] at hf
    refine V_iload (pc := 218) X (th_da dtX0_greatestLevel 118 rfl) rfl ?_
    exact V_iretF (pc := 220) X (th_da dtX0_greatestLevel 119 rfl) hf
  · rw [if_neg c1] at hf
    refine V_iload (pc := 221) X (th_da dtX0_greatestLevel 120 rfl) rfl ?_
    refine V_istore (pc := 223) (ls2 := [.ref p, .int y1, .ref a, .int y3, .int y8, .int y5, .null, .null, .int y8, .int z0, .null]) X (th_da dtX0_greatestLevel 121 rfl) (Nat.le_of_ble_eq_true rfl) rfl rfl ?_
    refine V_iinc (pc := 225) (v := y5 + 1) (ls2 := [.ref p, .int y1, .ref a, .int y3, .int y8, .int (y5 + 1), .null, .null, .int y8, .int z0, .null]) X (th_da dtX0_greatestLevel 122 rfl) rfl rfl (Nat.le_of_ble_eq_true rfl) rfl rfl ?_
    refine V_goto (pc := 228) (tgt := 13) X (th_da dtX0_greatestLevel 123 rfl) (by decide) ?_
    refine V_mask [true, true, true, true, true, true, false, false, false, false, false] (ls2 := [.ref p, .int y1, .ref a, .int y3, .int y8, .int (y5 + 1), .null, .null, .null, .null, .null]) rfl ?_
    exact hk13 _ _ _ _ _ hf
set_option maxHeartbeats 4000000 in
set_option maxRecDepth 100000 in
theorem tX0_greatestLevel_c40 (X : th_X p0 s m args meth c D cI cZ ad LC 11 RX0 cX0_greatestLevel (some .int)) (p : Nat) (a : Nat) (hp : isP p) (ha : LC[a]? = some (.inl (20, false))) (k13 : Int32 → Int32 → Int32 → Int32 → th_H → Option (Int32 × th_H)) (hk13 : ∀ (y1 : Int32) (y3 : Int32) (y4 : Int32) (y5 : Int32) (h : th_H), k13 y1 y3 y4 y5 h = some (rr, hh) → th_V p0 l e { frames := 2, cells := 0, slots := 0, locals := 43 } s m args below meth c D cI cZ ad LC 11 (some (.int rr)) hh 13 [.ref p, .int y1, .ref a, .int y3, .int y4, .int y5, .null, .null, .null, .null, .null] [] h) : ∀ (n : Nat) (y1 : Int32) (y3 : Int32) (y4 : Int32) (y5 : Int32) (y6 : Int32) (y7 : Int32) (y8 : Int32) (y9 : Int32) (h : th_H), fX0_greatestLevel_c40 p a k13 n y1 y3 y4 y5 y6 y7 y8 y9 h = some (rr, hh) → th_V p0 l e { frames := 2, cells := 0, slots := 0, locals := 43 } s m args below meth c D cI cZ ad LC 11 (some (.int rr)) hh 40 [.ref p, .int y1, .ref a, .int y3, .int y4, .int y5, .int y6, .int y7, .int y8, .int y9, .null] [] h := by
  intro n
  induction n with
  | zero => intro y1 y3 y4 y5 y6 y7 y8 y9 h hf; cases hf
  | succ n ih =>
    intro y1 y3 y4 y5 y6 y7 y8 y9 h hf
    rw [fX0_greatestLevel_c40] at hf
    refine V_iload (pc := 40) X (th_da dtX0_greatestLevel 23 rfl) rfl ?_
    refine V_bipush (pc := 42) (v := 20) X (th_da dtX0_greatestLevel 24 rfl) (by decide) ?_
    refine V_icmp_ge (pc := 44) (tgt := 183) X (th_da dtX0_greatestLevel 25 rfl) (by decide) (fun c1 => ?_) (fun c1 => ?_)
    · rw [if_pos c1] at hf
      refine V_iload_n (pc := 47) X (th_da dtX0_greatestLevel 26 rfl) rfl ?_
      refine V_iload (pc := 48) X (th_da dtX0_greatestLevel 27 rfl) rfl ?_
      refine V_ishr (pc := 50) X (th_da dtX0_greatestLevel 28 rfl) ?_
      refine V_iconst (pc := 51) (v := 1) X (th_da dtX0_greatestLevel 29 rfl) (by decide) ?_
      refine V_iand (pc := 52) X (th_da dtX0_greatestLevel 30 rfl) ?_
      refine V_if_ne (pc := 53) (tgt := 59) X (th_da dtX0_greatestLevel 31 rfl) (by decide) (fun c2 => ?_) (fun c2 => ?_)
      · rw [if_pos c2] at hf
        refine V_goto (pc := 56) (tgt := 177) X (th_da dtX0_greatestLevel 32 rfl) (by decide) ?_
        refine V_iinc (pc := 177) (v := y9 + 1) (ls2 := [.ref p, .int y1, .ref a, .int y3, .int y4, .int y5, .int y6, .int y7, .int y8, .int (y9 + 1), .null]) X (th_da dtX0_greatestLevel 97 rfl) rfl rfl (Nat.le_of_ble_eq_true rfl) rfl rfl ?_
        refine V_goto (pc := 180) (tgt := 40) X (th_da dtX0_greatestLevel 98 rfl) (by decide) ?_
        exact ih _ _ _ _ _ _ _ _ _ hf
      · rw [if_neg c2] at hf
        refine V_aload_n (pc := 59) X (th_da dtX0_greatestLevel 33 rfl) rfl ?_
        refine V_iload (pc := 60) X (th_da dtX0_greatestLevel 34 rfl) rfl ?_
        refine V_aload_n (pc := 62) X (th_da dtX0_greatestLevel 35 rfl) rfl ?_
        refine V_getR (pc := 63) (j := 5) (t := (p + 6)) X (th_da dtX0_greatestLevel 36 rfl) wfl_X0_27 iX0 rfl (P_0 hp) (Nat.le_of_ble_eq_true rfl) rfl ?_
        refine V_iload (pc := 66) X (th_da dtX0_greatestLevel 37 rfl) rfl ?_
        obtain ⟨v3, e3, g3, hf⟩ := th_rd_some hf
        refine V_iald (pc := 68) X (th_da dtX0_greatestLevel 38 rfl) (P_6 hp) g3 e3 ?_
        obtain ⟨u4, h4, e4, hf⟩ := th_bd_some hf
        refine V_callVi (pc := 69) (q := p) (As := [.int y9, .int v3]) X (th_da dtX0_greatestLevel 39 rfl) (mX0_byWeight l p hp _ _ _ _ _ e4) wcd_X0_byWeight wml_X0_66 wim_X0_byWeight wse_X0_byWeight win_X0_byWeight hd_X0_byWeight ⟨Nat.le_of_ble_eq_true rfl, Nat.le_of_ble_eq_true rfl⟩ (Nat.le_of_ble_eq_true rfl) rfl (P_0 hp) rfl ?_
        refine V_istore (pc := 72) (ls2 := [.ref p, .int y1, .ref a, .int y3, .int y4, .int y5, .int y6, .int y7, .int y8, .int y9, .int u4]) X (th_da dtX0_greatestLevel 40 rfl) (Nat.le_of_ble_eq_true rfl) rfl rfl ?_
        refine V_iload (pc := 74) X (th_da dtX0_greatestLevel 41 rfl) rfl ?_
        refine V_aload_n (pc := 76) X (th_da dtX0_greatestLevel 42 rfl) rfl ?_
        refine V_iload (pc := 77) X (th_da dtX0_greatestLevel 43 rfl) rfl ?_
        obtain ⟨v5, e5, g5, hf⟩ := th_rd_some hf
        refine V_iald (pc := 79) X (th_da dtX0_greatestLevel 44 rfl) ha g5 e5 ?_
        refine V_icmp_lt (pc := 80) (tgt := 101) X (th_da dtX0_greatestLevel 45 rfl) (by decide) (fun c6 => ?_) (fun c6 => ?_)
        · rw [if_pos c6] at hf
          refine V_iload (pc := 101) X (th_da dtX0_greatestLevel 56 rfl) rfl ?_
          refine V_iload (pc := 103) X (th_da dtX0_greatestLevel 57 rfl) rfl ?_
          refine V_icmp_lt (pc := 105) (tgt := 149) X (th_da dtX0_greatestLevel 58 rfl) (by decide) (fun c7 => ?_) (fun c7 => ?_)
          · rw [if_pos c7] at hf
            refine V_iload (pc := 149) X (th_da dtX0_greatestLevel 82 rfl) rfl ?_
            refine V_aload_n (pc := 151) X (th_da dtX0_greatestLevel 83 rfl) rfl ?_
            refine V_getR (pc := 152) (j := 5) (t := (p + 6)) X (th_da dtX0_greatestLevel 84 rfl) wfl_X0_27 iX0 rfl (P_0 hp) (Nat.le_of_ble_eq_true rfl) rfl ?_
            refine V_iload (pc := 155) X (th_da dtX0_greatestLevel 85 rfl) rfl ?_
            obtain ⟨v8, e8, g8, hf⟩ := th_rd_some hf
            refine V_iald (pc := 157) X (th_da dtX0_greatestLevel 86 rfl) (P_6 hp) g8 e8 ?_
            refine V_iadd (pc := 158) X (th_da dtX0_greatestLevel 87 rfl) ?_
            refine V_istore (pc := 159) (ls2 := [.ref p, .int y1, .ref a, .int y3, .int y4, .int y5, .int (y6 + v8), .int y7, .int y8, .int y9, .int u4]) X (th_da dtX0_greatestLevel 88 rfl) (Nat.le_of_ble_eq_true rfl) rfl rfl ?_
            refine V_iload (pc := 161) X (th_da dtX0_greatestLevel 89 rfl) rfl ?_
            refine V_iload (pc := 163) X (th_da dtX0_greatestLevel 90 rfl) rfl ?_
            refine V_aload_n (pc := 165) X (th_da dtX0_greatestLevel 91 rfl) rfl ?_
            refine V_iload (pc := 166) X (th_da dtX0_greatestLevel 92 rfl) rfl ?_
            obtain ⟨v9, e9, g9, hf⟩ := th_rd_some hf
            refine V_iald (pc := 168) X (th_da dtX0_greatestLevel 93 rfl) ha g9 e9 ?_
            refine V_mmin (pc := 169) X (th_da dtX0_greatestLevel 94 rfl) wml_X0_79 wst_J9_min_7cf53 win_J9_min_7cf53 wcd_J9_min_7cf53 (Nat.le_of_ble_eq_true rfl) (Nat.le_of_ble_eq_true rfl) ?_
            refine V_mmin (pc := 172) X (th_da dtX0_greatestLevel 95 rfl) wml_X0_79 wst_J9_min_7cf53 win_J9_min_7cf53 wcd_J9_min_7cf53 (Nat.le_of_ble_eq_true rfl) (Nat.le_of_ble_eq_true rfl) ?_
            refine V_istore (pc := 175) (ls2 := [.ref p, .int y1, .ref a, .int y3, .int y4, .int y5, .int (y6 + v8), .int y7, .int (th_mn y8 (th_mn u4 v9)), .int y9, .int u4]) X (th_da dtX0_greatestLevel 96 rfl) (Nat.le_of_ble_eq_true rfl) rfl rfl ?_
            refine V_iinc (pc := 177) (v := y9 + 1) (ls2 := [.ref p, .int y1, .ref a, .int y3, .int y4, .int y5, .int (y6 + v8), .int y7, .int (th_mn y8 (th_mn u4 v9)), .int (y9 + 1), .int u4]) X (th_da dtX0_greatestLevel 97 rfl) rfl rfl (Nat.le_of_ble_eq_true rfl) rfl rfl ?_
            refine V_goto (pc := 180) (tgt := 40) X (th_da dtX0_greatestLevel 98 rfl) (by decide) ?_
            refine V_mask [true, true, true, true, true, true, true, true, true, true, false] (ls2 := [.ref p, .int y1, .ref a, .int y3, .int y4, .int y5, .int (y6 + v8), .int y7, .int (th_mn y8 (th_mn u4 v9)), .int (y9 + 1), .null]) rfl ?_
            exact ih _ _ _ _ _ _ _ _ _ hf
          · rw [if_neg c7] at hf
            refine V_iload (pc := 108) X (th_da dtX0_greatestLevel 59 rfl) rfl ?_
            refine V_aload_n (pc := 110) X (th_da dtX0_greatestLevel 60 rfl) rfl ?_
            refine V_getR (pc := 111) (j := 4) (t := (p + 5)) X (th_da dtX0_greatestLevel 61 rfl) wfl_X0_24 iX0 rfl (P_0 hp) (Nat.le_of_ble_eq_true rfl) rfl ?_
            refine V_iload (pc := 114) X (th_da dtX0_greatestLevel 62 rfl) rfl ?_
            obtain ⟨v10, e10, g10, hf⟩ := th_rd_some hf
            refine V_iald (pc := 116) X (th_da dtX0_greatestLevel 63 rfl) (P_5 hp) g10 e10 ?_
            refine V_iload (pc := 117) X (th_da dtX0_greatestLevel 64 rfl) rfl ?_
            refine V_imul (pc := 119) X (th_da dtX0_greatestLevel 65 rfl) ?_
            refine V_iadd (pc := 120) X (th_da dtX0_greatestLevel 66 rfl) ?_
            refine V_istore (pc := 121) (ls2 := [.ref p, .int y1, .ref a, .int y3, .int y4, .int y5, .int (y6 + (v10 * y4)), .int y7, .int y8, .int y9, .int u4]) X (th_da dtX0_greatestLevel 67 rfl) (Nat.le_of_ble_eq_true rfl) rfl rfl ?_
            refine V_iload (pc := 123) X (th_da dtX0_greatestLevel 68 rfl) rfl ?_
            refine V_aload_n (pc := 125) X (th_da dtX0_greatestLevel 69 rfl) rfl ?_
            refine V_getR (pc := 126) (j := 4) (t := (p + 5)) X (th_da dtX0_greatestLevel 70 rfl) wfl_X0_24 iX0 rfl (P_0 hp) (Nat.le_of_ble_eq_true rfl) rfl ?_
            refine V_iload (pc := 129) X (th_da dtX0_greatestLevel 71 rfl) rfl ?_
            obtain ⟨v11, e11, g11, hf⟩ := th_rd_some hf
            refine V_iald (pc := 131) X (th_da dtX0_greatestLevel 72 rfl) (P_5 hp) g11 e11 ?_
            refine V_iadd (pc := 132) X (th_da dtX0_greatestLevel 73 rfl) ?_
            refine V_istore (pc := 133) (ls2 := [.ref p, .int y1, .ref a, .int y3, .int y4, .int y5, .int (y6 + (v10 * y4)), .int (y7 + v11), .int y8, .int y9, .int u4]) X (th_da dtX0_greatestLevel 74 rfl) (Nat.le_of_ble_eq_true rfl) rfl rfl ?_
            refine V_iload (pc := 135) X (th_da dtX0_greatestLevel 75 rfl) rfl ?_
            refine V_aload_n (pc := 137) X (th_da dtX0_greatestLevel 76 rfl) rfl ?_
            refine V_iload (pc := 138) X (th_da dtX0_greatestLevel 77 rfl) rfl ?_
            obtain ⟨v12, e12, g12, hf⟩ := th_rd_some hf
            refine V_iald (pc := 140) X (th_da dtX0_greatestLevel 78 rfl) ha g12 e12 ?_
            refine V_mmin (pc := 141) X (th_da dtX0_greatestLevel 79 rfl) wml_X0_79 wst_J9_min_7cf53 win_J9_min_7cf53 wcd_J9_min_7cf53 (Nat.le_of_ble_eq_true rfl) (Nat.le_of_ble_eq_true rfl) ?_
            refine V_istore (pc := 144) (ls2 := [.ref p, .int y1, .ref a, .int y3, .int y4, .int y5, .int (y6 + (v10 * y4)), .int (y7 + v11), .int (th_mn y8 v12), .int y9, .int u4]) X (th_da dtX0_greatestLevel 80 rfl) (Nat.le_of_ble_eq_true rfl) rfl rfl ?_
            refine V_goto (pc := 146) (tgt := 177) X (th_da dtX0_greatestLevel 81 rfl) (by decide) ?_
            refine V_iinc (pc := 177) (v := y9 + 1) (ls2 := [.ref p, .int y1, .ref a, .int y3, .int y4, .int y5, .int (y6 + (v10 * y4)), .int (y7 + v11), .int (th_mn y8 v12), .int (y9 + 1), .int u4]) X (th_da dtX0_greatestLevel 97 rfl) rfl rfl (Nat.le_of_ble_eq_true rfl) rfl rfl ?_
            refine V_goto (pc := 180) (tgt := 40) X (th_da dtX0_greatestLevel 98 rfl) (by decide) ?_
            refine V_mask [true, true, true, true, true, true, true, true, true, true, false] (ls2 := [.ref p, .int y1, .ref a, .int y3, .int y4, .int y5, .int (y6 + (v10 * y4)), .int (y7 + v11), .int (th_mn y8 v12), .int (y9 + 1), .null]) rfl ?_
            exact ih _ _ _ _ _ _ _ _ _ hf
        · rw [if_neg c6] at hf
          refine V_iload (pc := 83) X (th_da dtX0_greatestLevel 46 rfl) rfl ?_
          refine V_aload_n (pc := 85) X (th_da dtX0_greatestLevel 47 rfl) rfl ?_
          refine V_iload (pc := 86) X (th_da dtX0_greatestLevel 48 rfl) rfl ?_
          refine V_aload_n (pc := 88) X (th_da dtX0_greatestLevel 49 rfl) rfl ?_
          refine V_iload (pc := 89) X (th_da dtX0_greatestLevel 50 rfl) rfl ?_
          obtain ⟨v13, e13, g13, hf⟩ := th_rd_some hf
          refine V_iald (pc := 91) X (th_da dtX0_greatestLevel 51 rfl) ha g13 e13 ?_
          obtain ⟨u14, h14, e14, hf⟩ := th_bd_some hf
          refine V_callVi (pc := 92) (q := p) (As := [.int y9, .int v13]) X (th_da dtX0_greatestLevel 52 rfl) (mX0_rateBy l p hp _ _ _ _ _ e14) wcd_X0_rateBy wml_X0_76 wim_X0_rateBy wse_X0_rateBy win_X0_rateBy hd_X0_rateBy ⟨Nat.le_of_ble_eq_true rfl, Nat.le_of_ble_eq_true rfl⟩ (Nat.le_of_ble_eq_true rfl) rfl (P_0 hp) rfl ?_
          refine V_iadd (pc := 95) X (th_da dtX0_greatestLevel 53 rfl) ?_
          refine V_istore (pc := 96) (ls2 := [.ref p, .int y1, .ref a, .int y3, .int y4, .int y5, .int (y6 + u14), .int y7, .int y8, .int y9, .int u4]) X (th_da dtX0_greatestLevel 54 rfl) (Nat.le_of_ble_eq_true rfl) rfl rfl ?_
          refine V_goto (pc := 98) (tgt := 177) X (th_da dtX0_greatestLevel 55 rfl) (by decide) ?_
          refine V_iinc (pc := 177) (v := y9 + 1) (ls2 := [.ref p, .int y1, .ref a, .int y3, .int y4, .int y5, .int (y6 + u14), .int y7, .int y8, .int (y9 + 1), .int u4]) X (th_da dtX0_greatestLevel 97 rfl) rfl rfl (Nat.le_of_ble_eq_true rfl) rfl rfl ?_
          refine V_goto (pc := 180) (tgt := 40) X (th_da dtX0_greatestLevel 98 rfl) (by decide) ?_
          refine V_mask [true, true, true, true, true, true, true, true, true, true, false] (ls2 := [.ref p, .int y1, .ref a, .int y3, .int y4, .int y5, .int (y6 + u14), .int y7, .int y8, .int (y9 + 1), .null]) rfl ?_
          exact ih _ _ _ _ _ _ _ _ _ hf
    · rw [if_neg c1] at hf
      refine V_iload (pc := 183) X (th_da dtX0_greatestLevel 99 rfl) rfl ?_
      refine V_iconst (pc := 185) (v := 1) X (th_da dtX0_greatestLevel 100 rfl) (by decide) ?_
      refine V_icmp_ge (pc := 186) (tgt := 194) X (th_da dtX0_greatestLevel 101 rfl) (by decide) (fun c15 => ?_) (fun c15 => ?_)
      · rw [if_pos c15] at hf
        refine V_ldc (pc := 189) (v := 1000000) X (th_da dtX0_greatestLevel 102 rfl) wco_X0_75 ?_
        refine V_goto (pc := 191) (tgt := 209) X (th_da dtX0_greatestLevel 103 rfl) (by decide) ?_
        refine V_mask [true, true, true, true, false, true, false, false, true, false, false] (ls2 := [.ref p, .int y1, .ref a, .int y3, .null, .int y5, .null, .null, .int y8, .null, .null]) rfl ?_
        exact tX0_greatestLevel_c209 X _ _ hp ha _ hk13 _ _ _ _ _ _ hf
      · rw [if_neg c15] at hf
        refine V_iload (pc := 194) X (th_da dtX0_greatestLevel 104 rfl) rfl ?_
        refine V_aload_n (pc := 196) X (th_da dtX0_greatestLevel 105 rfl) rfl ?_
        refine V_getR (pc := 197) (j := 0) (t := (p + 1)) X (th_da dtX0_greatestLevel 106 rfl) wfl_X0_9 iX0 rfl (P_0 hp) (Nat.le_of_ble_eq_true rfl) rfl ?_
        refine V_iload_n (pc := 200) X (th_da dtX0_greatestLevel 107 rfl) rfl ?_
        obtain ⟨v16, e16, g16, hf⟩ := th_rd_some hf
        refine V_iald (pc := 201) X (th_da dtX0_greatestLevel 108 rfl) (P_1 hp) g16 e16 ?_
        refine V_iload (pc := 202) X (th_da dtX0_greatestLevel 109 rfl) rfl ?_
        refine V_isub (pc := 204) X (th_da dtX0_greatestLevel 110 rfl) ?_
        refine V_iload (pc := 205) X (th_da dtX0_greatestLevel 111 rfl) rfl ?_
        obtain ⟨g17, hf⟩ := th_dv_some hf
        refine V_idiv (pc := 207) X (th_da dtX0_greatestLevel 112 rfl) g17 ?_
        refine V_iadd (pc := 208) X (th_da dtX0_greatestLevel 113 rfl) ?_
        refine V_mask [true, true, true, true, false, true, false, false, true, false, false] (ls2 := [.ref p, .int y1, .ref a, .int y3, .null, .int y5, .null, .null, .int y8, .null, .null]) rfl ?_
        exact tX0_greatestLevel_c209 X _ _ hp ha _ hk13 _ _ _ _ _ _ hf
set_option maxHeartbeats 4000000 in
set_option maxRecDepth 100000 in
theorem tX0_greatestLevel_c13 (X : th_X p0 s m args meth c D cI cZ ad LC 11 RX0 cX0_greatestLevel (some .int)) (p : Nat) (a : Nat) (hp : isP p) (ha : LC[a]? = some (.inl (20, false))) : ∀ (n : Nat) (y1 : Int32) (y3 : Int32) (y4 : Int32) (y5 : Int32) (h : th_H), fX0_greatestLevel_c13 p a n y1 y3 y4 y5 h = some (rr, hh) → th_V p0 l e { frames := 2, cells := 0, slots := 0, locals := 43 } s m args below meth c D cI cZ ad LC 11 (some (.int rr)) hh 13 [.ref p, .int y1, .ref a, .int y3, .int y4, .int y5, .null, .null, .null, .null, .null] [] h := by
  intro n
  induction n with
  | zero => intro y1 y3 y4 y5 h hf; cases hf
  | succ n ih =>
    intro y1 y3 y4 y5 h hf
    rw [fX0_greatestLevel_c13] at hf
    refine V_iload (pc := 13) X (th_da dtX0_greatestLevel 9 rfl) rfl ?_
    refine V_bipush (pc := 15) (v := 40) X (th_da dtX0_greatestLevel 10 rfl) (by decide) ?_
    refine V_icmp_gt (pc := 17) (tgt := 231) X (th_da dtX0_greatestLevel 11 rfl) (by decide) (fun c1 => ?_) (fun c1 => ?_)
    · rw [if_pos c1] at hf
      refine V_iload (pc := 231) X (th_da dtX0_greatestLevel 124 rfl) rfl ?_
      exact V_iretF (pc := 233) X (th_da dtX0_greatestLevel 125 rfl) hf
    · rw [if_neg c1] at hf
      refine V_iload (pc := 20) X (th_da dtX0_greatestLevel 12 rfl) rfl ?_
      refine V_ldc (pc := 22) (v := 1000000) X (th_da dtX0_greatestLevel 13 rfl) wco_X0_75 ?_
      refine V_icmp_ge (pc := 24) (tgt := 231) X (th_da dtX0_greatestLevel 14 rfl) (by decide) (fun c2 => ?_) (fun c2 => ?_)
      · rw [if_pos c2] at hf
        refine V_iconst (pc := 27) (v := 0) X (th_da dtX0_greatestLevel 15 rfl) (by decide) ?_
        refine V_istore (pc := 28) (ls2 := [.ref p, .int y1, .ref a, .int y3, .int y4, .int y5, .int 0, .null, .null, .null, .null]) X (th_da dtX0_greatestLevel 16 rfl) (Nat.le_of_ble_eq_true rfl) rfl rfl ?_
        refine V_iconst (pc := 30) (v := 0) X (th_da dtX0_greatestLevel 17 rfl) (by decide) ?_
        refine V_istore (pc := 31) (ls2 := [.ref p, .int y1, .ref a, .int y3, .int y4, .int y5, .int 0, .int 0, .null, .null, .null]) X (th_da dtX0_greatestLevel 18 rfl) (Nat.le_of_ble_eq_true rfl) rfl rfl ?_
        refine V_ldc (pc := 33) (v := 1000000) X (th_da dtX0_greatestLevel 19 rfl) wco_X0_75 ?_
        refine V_istore (pc := 35) (ls2 := [.ref p, .int y1, .ref a, .int y3, .int y4, .int y5, .int 0, .int 0, .int 1000000, .null, .null]) X (th_da dtX0_greatestLevel 20 rfl) (Nat.le_of_ble_eq_true rfl) rfl rfl ?_
        refine V_iconst (pc := 37) (v := 0) X (th_da dtX0_greatestLevel 21 rfl) (by decide) ?_
        refine V_istore (pc := 38) (ls2 := [.ref p, .int y1, .ref a, .int y3, .int y4, .int y5, .int 0, .int 0, .int 1000000, .int 0, .null]) X (th_da dtX0_greatestLevel 22 rfl) (Nat.le_of_ble_eq_true rfl) rfl rfl ?_
        exact tX0_greatestLevel_c40 X _ _ hp ha _ ih _ _ _ _ _ _ _ _ _ _ hf
      · rw [if_neg c2] at hf
        refine V_iload (pc := 231) X (th_da dtX0_greatestLevel 124 rfl) rfl ?_
        exact V_iretF (pc := 233) X (th_da dtX0_greatestLevel 125 rfl) hf
set_option maxHeartbeats 4000000 in
set_option maxRecDepth 100000 in
theorem mX0_greatestLevel (l : Launch) (p : Nat) (a : Nat) (hp : isP p) (ha : LC[a]? = some (.inl (20, false))) (x1 : Int32) (h : th_H) (rr : Int32) (hh : th_H) (hf : fX0_greatestLevel p a x1 h = some (rr, hh)) : th_MI l LC yX0_greatestLevel cX0_greatestLevel 11 (some .int) 2 43 [.ref p, .int x1, .ref a] h (some (.int rr)) hh := by
  refine th_MI_of (ls := [.ref p, .int x1, .ref a, .null, .null, .null, .null, .null, .null, .null, .null]) RX0 rfl rfl rfl (Nat.le_of_ble_eq_true rfl) ?_
  intro p0 e s m args below meth c D cI cZ ad X
  unfold fX0_greatestLevel at hf
  refine V_aload_n (pc := 0) X (th_da dtX0_greatestLevel 0 rfl) rfl ?_
  refine V_getR (pc := 1) (j := 1) (t := (p + 2)) X (th_da dtX0_greatestLevel 1 rfl) wfl_X0_15 iX0 rfl (P_0 hp) (Nat.le_of_ble_eq_true rfl) rfl ?_
  refine V_iload_n (pc := 4) X (th_da dtX0_greatestLevel 2 rfl) rfl ?_
  obtain ⟨v1, e1, g1, hf⟩ := th_rd_some hf
  refine V_iald (pc := 5) X (th_da dtX0_greatestLevel 3 rfl) (P_2 hp) g1 e1 ?_
  refine V_istore_n (pc := 6) (ls2 := [.ref p, .int x1, .ref a, .int v1, .null, .null, .null, .null, .null, .null, .null]) X (th_da dtX0_greatestLevel 4 rfl) (Nat.le_of_ble_eq_true rfl) rfl rfl ?_
  refine V_iconst (pc := 7) (v := 0) X (th_da dtX0_greatestLevel 5 rfl) (by decide) ?_
  refine V_istore (pc := 8) (ls2 := [.ref p, .int x1, .ref a, .int v1, .int 0, .null, .null, .null, .null, .null, .null]) X (th_da dtX0_greatestLevel 6 rfl) (Nat.le_of_ble_eq_true rfl) rfl rfl ?_
  refine V_iconst (pc := 10) (v := 0) X (th_da dtX0_greatestLevel 7 rfl) (by decide) ?_
  refine V_istore (pc := 11) (ls2 := [.ref p, .int x1, .ref a, .int v1, .int 0, .int 0, .null, .null, .null, .null, .null]) X (th_da dtX0_greatestLevel 8 rfl) (Nat.le_of_ble_eq_true rfl) rfl rfl ?_
  exact tX0_greatestLevel_c13 X _ _ hp ha _ _ _ _ _ _ hf
end
def fX0_copy (p : Nat) (p2 : Nat) (h : th_H) : Option (Unit × th_H) :=
  th_st (th_cp h (p2 + 1) (p + 1) 10) fun h1 =>
  th_st (th_cp h1 (p2 + 2) (p + 2) 10) fun h2 =>
  th_st (th_cp h2 (p2 + 3) (p + 3) 20) fun h3 =>
  th_st (th_cp h3 (p2 + 4) (p + 4) 20) fun h4 =>
  th_st (th_cp h4 (p2 + 5) (p + 5) 20) fun h5 =>
  th_st (th_cp h5 (p2 + 6) (p + 6) 20) fun h6 =>
  th_st (th_cp h6 (p2 + 7) (p + 7) 20) fun h7 =>
  th_st (th_up h7 p 7 (h7.1 p2 7)) fun h8 =>
  th_st (th_up h8 p 8 ((h8.1 p 8) + 1)) fun h9 =>
  some ((), h9)
def tbX0_copy : List (Nat × Instr × Nat) := [(0, .aload_n 1, 1), (1, .getfield 9, 3), (4, .iconst 0, 1), (5, .aload_n 0, 1), (6, .getfield 9, 3), (9, .iconst 0, 1), (10, .bipush 10, 2), (12, .invokestatic 33, 3), (15, .aload_n 1, 1), (16, .getfield 15, 3), (19, .iconst 0, 1), (20, .aload_n 0, 1), (21, .getfield 15, 3), (24, .iconst 0, 1), (25, .bipush 10, 2), (27, .invokestatic 33, 3), (30, .aload_n 1, 1), (31, .getfield 18, 3), (34, .iconst 0, 1), (35, .aload_n 0, 1), (36, .getfield 18, 3), (39, .iconst 0, 1), (40, .bipush 20, 2), (42, .invokestatic 33, 3), (45, .aload_n 1, 1), (46, .getfield 21, 3), (49, .iconst 0, 1), (50, .aload_n 0, 1), (51, .getfield 21, 3), (54, .iconst 0, 1), (55, .bipush 20, 2), (57, .invokestatic 33, 3), (60, .aload_n 1, 1), (61, .getfield 24, 3), (64, .iconst 0, 1), (65, .aload_n 0, 1), (66, .getfield 24, 3), (69, .iconst 0, 1), (70, .bipush 20, 2), (72, .invokestatic 33, 3), (75, .aload_n 1, 1), (76, .getfield 27, 3), (79, .iconst 0, 1), (80, .aload_n 0, 1), (81, .getfield 27, 3), (84, .iconst 0, 1), (85, .bipush 20, 2), (87, .invokestatic 33, 3), (90, .aload_n 1, 1), (91, .getfield 30, 3), (94, .iconst 0, 1), (95, .aload_n 0, 1), (96, .getfield 30, 3), (99, .iconst 0, 1), (100, .bipush 20, 2), (102, .invokestatic 33, 3), (105, .aload_n 0, 1), (106, .aload_n 1, 1), (107, .getfield 39, 3), (110, .putfield 39, 3), (113, .aload_n 0, 1), (114, .dup, 1), (115, .getfield 43, 3), (118, .iconst 1, 1), (119, .iadd, 1), (120, .putfield 43, 3), (123, .return_, 1)]
theorem dtX0_copy : th_dec cX0_copy tbX0_copy = true := by decide +kernel
section
variable {p0 : Program} {l : Launch} {e : Env} {s : State} {m : MethodId} {args : Array Value} {below : List Frame} {meth : Method} {c : Code} {D : va_G} {cI cZ : ClassId} {ad : Nat → Nat} {rr : Unit} {hh : th_H}
set_option maxHeartbeats 4000000 in
set_option maxRecDepth 100000 in
theorem mX0_copy (l : Launch) (p : Nat) (p2 : Nat) (hp : isP p) (hp2 : isP p2) (h : th_H) (rr : Unit) (hh : th_H) (hf : fX0_copy p p2 h = some (rr, hh)) : th_MI l LC yX0_copy cX0_copy 2 none 1 26 [.ref p, .ref p2] h none hh := by
  refine th_MI_of (ls := [.ref p, .ref p2]) RX0 rfl rfl rfl (Nat.le_of_ble_eq_true rfl) ?_
  intro p0 e s m args below meth c D cI cZ ad X
  unfold fX0_copy at hf
  refine V_aload_n (pc := 0) X (th_da dtX0_copy 0 rfl) rfl ?_
  refine V_getR (pc := 1) (j := 0) (t := (p2 + 1)) X (th_da dtX0_copy 1 rfl) wfl_X0_9 iX0 rfl (P_0 hp2) (Nat.le_of_ble_eq_true rfl) rfl ?_
  refine V_iconst (pc := 4) (v := 0) X (th_da dtX0_copy 2 rfl) (by decide) ?_
  refine V_aload_n (pc := 5) X (th_da dtX0_copy 3 rfl) rfl ?_
  refine V_getR (pc := 6) (j := 0) (t := (p + 1)) X (th_da dtX0_copy 4 rfl) wfl_X0_9 iX0 rfl (P_0 hp) (Nat.le_of_ble_eq_true rfl) rfl ?_
  refine V_iconst (pc := 9) (v := 0) X (th_da dtX0_copy 5 rfl) (by decide) ?_
  refine V_bipush (pc := 10) (v := 10) X (th_da dtX0_copy 6 rfl) (by decide) ?_
  obtain ⟨h1, e1, hf⟩ := th_st_some hf
  refine V_copy (pc := 12) (N := 10) X (th_da dtX0_copy 7 rfl) wml_X0_33 wac_nat wac_st wac_in (P_1 hp2) (P_1 hp) (by decide) rfl (Nat.le_of_ble_eq_true rfl) (Nat.le_of_ble_eq_true rfl) (Nat.le_of_ble_eq_true rfl) (Nat.le_of_ble_eq_true rfl) e1 ?_
  refine V_aload_n (pc := 15) X (th_da dtX0_copy 8 rfl) rfl ?_
  refine V_getR (pc := 16) (j := 1) (t := (p2 + 2)) X (th_da dtX0_copy 9 rfl) wfl_X0_15 iX0 rfl (P_0 hp2) (Nat.le_of_ble_eq_true rfl) rfl ?_
  refine V_iconst (pc := 19) (v := 0) X (th_da dtX0_copy 10 rfl) (by decide) ?_
  refine V_aload_n (pc := 20) X (th_da dtX0_copy 11 rfl) rfl ?_
  refine V_getR (pc := 21) (j := 1) (t := (p + 2)) X (th_da dtX0_copy 12 rfl) wfl_X0_15 iX0 rfl (P_0 hp) (Nat.le_of_ble_eq_true rfl) rfl ?_
  refine V_iconst (pc := 24) (v := 0) X (th_da dtX0_copy 13 rfl) (by decide) ?_
  refine V_bipush (pc := 25) (v := 10) X (th_da dtX0_copy 14 rfl) (by decide) ?_
  obtain ⟨h2, e2, hf⟩ := th_st_some hf
  refine V_copy (pc := 27) (N := 10) X (th_da dtX0_copy 15 rfl) wml_X0_33 wac_nat wac_st wac_in (P_2 hp2) (P_2 hp) (by decide) rfl (Nat.le_of_ble_eq_true rfl) (Nat.le_of_ble_eq_true rfl) (Nat.le_of_ble_eq_true rfl) (Nat.le_of_ble_eq_true rfl) e2 ?_
  refine V_aload_n (pc := 30) X (th_da dtX0_copy 16 rfl) rfl ?_
  refine V_getR (pc := 31) (j := 2) (t := (p2 + 3)) X (th_da dtX0_copy 17 rfl) wfl_X0_18 iX0 rfl (P_0 hp2) (Nat.le_of_ble_eq_true rfl) rfl ?_
  refine V_iconst (pc := 34) (v := 0) X (th_da dtX0_copy 18 rfl) (by decide) ?_
  refine V_aload_n (pc := 35) X (th_da dtX0_copy 19 rfl) rfl ?_
  refine V_getR (pc := 36) (j := 2) (t := (p + 3)) X (th_da dtX0_copy 20 rfl) wfl_X0_18 iX0 rfl (P_0 hp) (Nat.le_of_ble_eq_true rfl) rfl ?_
  refine V_iconst (pc := 39) (v := 0) X (th_da dtX0_copy 21 rfl) (by decide) ?_
  refine V_bipush (pc := 40) (v := 20) X (th_da dtX0_copy 22 rfl) (by decide) ?_
  obtain ⟨h3, e3, hf⟩ := th_st_some hf
  refine V_copy (pc := 42) (N := 20) X (th_da dtX0_copy 23 rfl) wml_X0_33 wac_nat wac_st wac_in (P_3 hp2) (P_3 hp) (by decide) rfl (Nat.le_of_ble_eq_true rfl) (Nat.le_of_ble_eq_true rfl) (Nat.le_of_ble_eq_true rfl) (Nat.le_of_ble_eq_true rfl) e3 ?_
  refine V_aload_n (pc := 45) X (th_da dtX0_copy 24 rfl) rfl ?_
  refine V_getR (pc := 46) (j := 3) (t := (p2 + 4)) X (th_da dtX0_copy 25 rfl) wfl_X0_21 iX0 rfl (P_0 hp2) (Nat.le_of_ble_eq_true rfl) rfl ?_
  refine V_iconst (pc := 49) (v := 0) X (th_da dtX0_copy 26 rfl) (by decide) ?_
  refine V_aload_n (pc := 50) X (th_da dtX0_copy 27 rfl) rfl ?_
  refine V_getR (pc := 51) (j := 3) (t := (p + 4)) X (th_da dtX0_copy 28 rfl) wfl_X0_21 iX0 rfl (P_0 hp) (Nat.le_of_ble_eq_true rfl) rfl ?_
  refine V_iconst (pc := 54) (v := 0) X (th_da dtX0_copy 29 rfl) (by decide) ?_
  refine V_bipush (pc := 55) (v := 20) X (th_da dtX0_copy 30 rfl) (by decide) ?_
  obtain ⟨h4, e4, hf⟩ := th_st_some hf
  refine V_copy (pc := 57) (N := 20) X (th_da dtX0_copy 31 rfl) wml_X0_33 wac_nat wac_st wac_in (P_4 hp2) (P_4 hp) (by decide) rfl (Nat.le_of_ble_eq_true rfl) (Nat.le_of_ble_eq_true rfl) (Nat.le_of_ble_eq_true rfl) (Nat.le_of_ble_eq_true rfl) e4 ?_
  refine V_aload_n (pc := 60) X (th_da dtX0_copy 32 rfl) rfl ?_
  refine V_getR (pc := 61) (j := 4) (t := (p2 + 5)) X (th_da dtX0_copy 33 rfl) wfl_X0_24 iX0 rfl (P_0 hp2) (Nat.le_of_ble_eq_true rfl) rfl ?_
  refine V_iconst (pc := 64) (v := 0) X (th_da dtX0_copy 34 rfl) (by decide) ?_
  refine V_aload_n (pc := 65) X (th_da dtX0_copy 35 rfl) rfl ?_
  refine V_getR (pc := 66) (j := 4) (t := (p + 5)) X (th_da dtX0_copy 36 rfl) wfl_X0_24 iX0 rfl (P_0 hp) (Nat.le_of_ble_eq_true rfl) rfl ?_
  refine V_iconst (pc := 69) (v := 0) X (th_da dtX0_copy 37 rfl) (by decide) ?_
  refine V_bipush (pc := 70) (v := 20) X (th_da dtX0_copy 38 rfl) (by decide) ?_
  obtain ⟨h5, e5, hf⟩ := th_st_some hf
  refine V_copy (pc := 72) (N := 20) X (th_da dtX0_copy 39 rfl) wml_X0_33 wac_nat wac_st wac_in (P_5 hp2) (P_5 hp) (by decide) rfl (Nat.le_of_ble_eq_true rfl) (Nat.le_of_ble_eq_true rfl) (Nat.le_of_ble_eq_true rfl) (Nat.le_of_ble_eq_true rfl) e5 ?_
  refine V_aload_n (pc := 75) X (th_da dtX0_copy 40 rfl) rfl ?_
  refine V_getR (pc := 76) (j := 5) (t := (p2 + 6)) X (th_da dtX0_copy 41 rfl) wfl_X0_27 iX0 rfl (P_0 hp2) (Nat.le_of_ble_eq_true rfl) rfl ?_
  refine V_iconst (pc := 79) (v := 0) X (th_da dtX0_copy 42 rfl) (by decide) ?_
  refine V_aload_n (pc := 80) X (th_da dtX0_copy 43 rfl) rfl ?_
  refine V_getR (pc := 81) (j := 5) (t := (p + 6)) X (th_da dtX0_copy 44 rfl) wfl_X0_27 iX0 rfl (P_0 hp) (Nat.le_of_ble_eq_true rfl) rfl ?_
  refine V_iconst (pc := 84) (v := 0) X (th_da dtX0_copy 45 rfl) (by decide) ?_
  refine V_bipush (pc := 85) (v := 20) X (th_da dtX0_copy 46 rfl) (by decide) ?_
  obtain ⟨h6, e6, hf⟩ := th_st_some hf
  refine V_copy (pc := 87) (N := 20) X (th_da dtX0_copy 47 rfl) wml_X0_33 wac_nat wac_st wac_in (P_6 hp2) (P_6 hp) (by decide) rfl (Nat.le_of_ble_eq_true rfl) (Nat.le_of_ble_eq_true rfl) (Nat.le_of_ble_eq_true rfl) (Nat.le_of_ble_eq_true rfl) e6 ?_
  refine V_aload_n (pc := 90) X (th_da dtX0_copy 48 rfl) rfl ?_
  refine V_getR (pc := 91) (j := 6) (t := (p2 + 7)) X (th_da dtX0_copy 49 rfl) wfl_X0_30 iX0 rfl (P_0 hp2) (Nat.le_of_ble_eq_true rfl) rfl ?_
  refine V_iconst (pc := 94) (v := 0) X (th_da dtX0_copy 50 rfl) (by decide) ?_
  refine V_aload_n (pc := 95) X (th_da dtX0_copy 51 rfl) rfl ?_
  refine V_getR (pc := 96) (j := 6) (t := (p + 7)) X (th_da dtX0_copy 52 rfl) wfl_X0_30 iX0 rfl (P_0 hp) (Nat.le_of_ble_eq_true rfl) rfl ?_
  refine V_iconst (pc := 99) (v := 0) X (th_da dtX0_copy 53 rfl) (by decide) ?_
  refine V_bipush (pc := 100) (v := 20) X (th_da dtX0_copy 54 rfl) (by decide) ?_
  obtain ⟨h7, e7, hf⟩ := th_st_some hf
  refine V_copy (pc := 102) (N := 20) X (th_da dtX0_copy 55 rfl) wml_X0_33 wac_nat wac_st wac_in (P_7 hp2) (P_7 hp) (by decide) rfl (Nat.le_of_ble_eq_true rfl) (Nat.le_of_ble_eq_true rfl) (Nat.le_of_ble_eq_true rfl) (Nat.le_of_ble_eq_true rfl) e7 ?_
  refine V_aload_n (pc := 105) X (th_da dtX0_copy 56 rfl) rfl ?_
  refine V_aload_n (pc := 106) X (th_da dtX0_copy 57 rfl) rfl ?_
  refine V_getI (pc := 107) (j := 7) X (th_da dtX0_copy 58 rfl) wfl_X0_39 iX0 rfl (P_0 hp2) (Nat.le_of_ble_eq_true rfl) rfl ?_
  obtain ⟨h8, e8, hf⟩ := th_st_some hf
  refine V_putI (pc := 110) (j := 7) (ty := .int) X (th_da dtX0_copy 59 rfl) wfl_X0_39 iX0 rfl (P_0 hp) (Nat.le_of_ble_eq_true rfl) rfl tyX0 tyX0_ok nmX0 rfl (tyX0_ok 7 (Nat.le_of_ble_eq_true rfl)) rfl rfl e8 ?_
  refine V_aload_n (pc := 113) X (th_da dtX0_copy 60 rfl) rfl ?_
  refine V_dup (pc := 114) X (th_da dtX0_copy 61 rfl) rfl ?_
  refine V_getI (pc := 115) (j := 8) X (th_da dtX0_copy 62 rfl) wfl_X0_43 iX0 rfl (P_0 hp) (Nat.le_of_ble_eq_true rfl) rfl ?_
  refine V_iconst (pc := 118) (v := 1) X (th_da dtX0_copy 63 rfl) (by decide) ?_
  refine V_iadd (pc := 119) X (th_da dtX0_copy 64 rfl) ?_
  obtain ⟨h9, e9, hf⟩ := th_st_some hf
  refine V_putI (pc := 120) (j := 8) (ty := .int) X (th_da dtX0_copy 65 rfl) wfl_X0_43 iX0 rfl (P_0 hp) (Nat.le_of_ble_eq_true rfl) rfl tyX0 tyX0_ok nmX0 rfl (tyX0_ok 8 (Nat.le_of_ble_eq_true rfl)) rfl rfl e9 ?_
  exact V_vretF (pc := 123) X (th_da dtX0_copy 66 rfl) hf
end
def fJ6_numberOfTrailingZeros_0f7a4_c62 (y0 : Int32) (y1 : Int32) (h : th_H) : Option (Int32 × th_H) :=
  if (4 < y0 : Prop) then
    some ((y1 + 2) + (th_us (th_us y0 2) 1), h)
  else
    some (y1 + (th_us y0 1), h)
def fJ6_numberOfTrailingZeros_0f7a4_c49 (y0 : Int32) (y1 : Int32) (h : th_H) : Option (Int32 × th_H) :=
  if (16 < y0 : Prop) then
    fJ6_numberOfTrailingZeros_0f7a4_c62 (th_us y0 4) (y1 + 4) h
  else
    fJ6_numberOfTrailingZeros_0f7a4_c62 y0 y1 h
def fJ6_numberOfTrailingZeros_0f7a4_c34 (y0 : Int32) (y1 : Int32) (h : th_H) : Option (Int32 × th_H) :=
  if (256 < y0 : Prop) then
    fJ6_numberOfTrailingZeros_0f7a4_c49 (th_us y0 8) (y1 + 8) h
  else
    fJ6_numberOfTrailingZeros_0f7a4_c49 y0 y1 h
def fJ6_numberOfTrailingZeros_0f7a4 (x0 : Int32) (h : th_H) : Option (Int32 × th_H) :=
  if (0 < ((x0 ^^^ (-1)) &&& (x0 - 1)) : Prop) then
    if (65536 < ((x0 ^^^ (-1)) &&& (x0 - 1)) : Prop) then
      fJ6_numberOfTrailingZeros_0f7a4_c34 (th_us ((x0 ^^^ (-1)) &&& (x0 - 1)) 16) (1 + 16) h
    else
      fJ6_numberOfTrailingZeros_0f7a4_c34 ((x0 ^^^ (-1)) &&& (x0 - 1)) 1 h
  else
    some (((x0 ^^^ (-1)) &&& (x0 - 1)) &&& 32, h)
def tbJ6_numberOfTrailingZeros_0f7a4 : List (Nat × Instr × Nat) := [(0, .iload_n 0, 1), (1, .iconst (-1), 1), (2, .ixor, 1), (3, .iload_n 0, 1), (4, .iconst 1, 1), (5, .isub, 1), (6, .iand, 1), (7, .istore_n 0, 1), (8, .iload_n 0, 1), (9, .ifCond .gt 8, 3), (12, .iload_n 0, 1), (13, .bipush 32, 2), (15, .iand, 1), (16, .ireturn, 1), (17, .iconst 1, 1), (18, .istore_n 1, 1), (19, .iload_n 0, 1), (20, .ldc_w 264, 3), (23, .if_icmp .le 11, 3), (26, .iinc 1 16, 3), (29, .iload_n 0, 1), (30, .bipush 16, 2), (32, .iushr, 1), (33, .istore_n 0, 1), (34, .iload_n 0, 1), (35, .sipush 256, 3), (38, .if_icmp .le 11, 3), (41, .iinc 1 8, 3), (44, .iload_n 0, 1), (45, .bipush 8, 2), (47, .iushr, 1), (48, .istore_n 0, 1), (49, .iload_n 0, 1), (50, .bipush 16, 2), (52, .if_icmp .le 10, 3), (55, .iinc 1 4, 3), (58, .iload_n 0, 1), (59, .iconst 4, 1), (60, .iushr, 1), (61, .istore_n 0, 1), (62, .iload_n 0, 1), (63, .iconst 4, 1), (64, .if_icmp .le 10, 3), (67, .iinc 1 2, 3), (70, .iload_n 0, 1), (71, .iconst 2, 1), (72, .iushr, 1), (73, .istore_n 0, 1), (74, .iload_n 1, 1), (75, .iload_n 0, 1), (76, .iconst 1, 1), (77, .iushr, 1), (78, .iadd, 1), (79, .ireturn, 1)]
theorem dtJ6_numberOfTrailingZeros_0f7a4 : th_dec cJ6_numberOfTrailingZeros_0f7a4 tbJ6_numberOfTrailingZeros_0f7a4 = true := by decide +kernel
section
variable {p0 : Program} {l : Launch} {e : Env} {s : State} {m : MethodId} {args : Array Value} {below : List Frame} {meth : Method} {c : Code} {D : va_G} {cI cZ : ClassId} {ad : Nat → Nat} {rr : Int32} {hh : th_H}
set_option maxHeartbeats 4000000 in
set_option maxRecDepth 100000 in
theorem tJ6_numberOfTrailingZeros_0f7a4_c62 (X : th_X p0 s m args meth c D cI cZ ad LC 2 RJ6 cJ6_numberOfTrailingZeros_0f7a4 (some .int)) (y0 : Int32) (y1 : Int32) (h : th_H) (hf : fJ6_numberOfTrailingZeros_0f7a4_c62 y0 y1 h = some (rr, hh)) : th_V p0 l e { frames := 0, cells := 0, slots := 0, locals := 0 } s m args below meth c D cI cZ ad LC 2 (some (.int rr)) hh 62 [.int y0, .int y1] [] h := by
  unfold fJ6_numberOfTrailingZeros_0f7a4_c62 at hf
  refine V_iload_n (pc := 62) X (th_da dtJ6_numberOfTrailingZeros_0f7a4 40 rfl) rfl ?_
  refine V_iconst (pc := 63) (v := 4) X (th_da dtJ6_numberOfTrailingZeros_0f7a4 41 rfl) (by decide) ?_
  refine V_icmp_le (pc := 64) (tgt := 74) X (th_da dtJ6_numberOfTrailingZeros_0f7a4 42 rfl) (by decide) (fun c1 => ?_) (fun c1 => ?_)
  · rw [if_pos c1] at hf
    refine V_iinc (pc := 67) (v := y1 + 2) (ls2 := [.int y0, .int (y1 + 2)]) X (th_da dtJ6_numberOfTrailingZeros_0f7a4 43 rfl) rfl rfl (Nat.le_of_ble_eq_true rfl) rfl rfl ?_
    refine V_iload_n (pc := 70) X (th_da dtJ6_numberOfTrailingZeros_0f7a4 44 rfl) rfl ?_
    refine V_iconst (pc := 71) (v := 2) X (th_da dtJ6_numberOfTrailingZeros_0f7a4 45 rfl) (by decide) ?_
    refine V_iushr (pc := 72) (v := th_us y0 2) X (th_da dtJ6_numberOfTrailingZeros_0f7a4 46 rfl) rfl ?_
    refine V_istore_n (pc := 73) (ls2 := [.int (th_us y0 2), .int (y1 + 2)]) X (th_da dtJ6_numberOfTrailingZeros_0f7a4 47 rfl) (Nat.le_of_ble_eq_true rfl) rfl rfl ?_
    refine V_iload_n (pc := 74) X (th_da dtJ6_numberOfTrailingZeros_0f7a4 48 rfl) rfl ?_
    refine V_iload_n (pc := 75) X (th_da dtJ6_numberOfTrailingZeros_0f7a4 49 rfl) rfl ?_
    refine V_iconst (pc := 76) (v := 1) X (th_da dtJ6_numberOfTrailingZeros_0f7a4 50 rfl) (by decide) ?_
    refine V_iushr (pc := 77) (v := th_us (th_us y0 2) 1) X (th_da dtJ6_numberOfTrailingZeros_0f7a4 51 rfl) rfl ?_
    refine V_iadd (pc := 78) X (th_da dtJ6_numberOfTrailingZeros_0f7a4 52 rfl) ?_
    exact V_iretF (pc := 79) X (th_da dtJ6_numberOfTrailingZeros_0f7a4 53 rfl) hf
  · rw [if_neg c1] at hf
    refine V_iload_n (pc := 74) X (th_da dtJ6_numberOfTrailingZeros_0f7a4 48 rfl) rfl ?_
    refine V_iload_n (pc := 75) X (th_da dtJ6_numberOfTrailingZeros_0f7a4 49 rfl) rfl ?_
    refine V_iconst (pc := 76) (v := 1) X (th_da dtJ6_numberOfTrailingZeros_0f7a4 50 rfl) (by decide) ?_
    refine V_iushr (pc := 77) (v := th_us y0 1) X (th_da dtJ6_numberOfTrailingZeros_0f7a4 51 rfl) rfl ?_
    refine V_iadd (pc := 78) X (th_da dtJ6_numberOfTrailingZeros_0f7a4 52 rfl) ?_
    exact V_iretF (pc := 79) X (th_da dtJ6_numberOfTrailingZeros_0f7a4 53 rfl) hf
set_option maxHeartbeats 4000000 in
set_option maxRecDepth 100000 in
theorem tJ6_numberOfTrailingZeros_0f7a4_c49 (X : th_X p0 s m args meth c D cI cZ ad LC 2 RJ6 cJ6_numberOfTrailingZeros_0f7a4 (some .int)) (y0 : Int32) (y1 : Int32) (h : th_H) (hf : fJ6_numberOfTrailingZeros_0f7a4_c49 y0 y1 h = some (rr, hh)) : th_V p0 l e { frames := 0, cells := 0, slots := 0, locals := 0 } s m args below meth c D cI cZ ad LC 2 (some (.int rr)) hh 49 [.int y0, .int y1] [] h := by
  unfold fJ6_numberOfTrailingZeros_0f7a4_c49 at hf
  refine V_iload_n (pc := 49) X (th_da dtJ6_numberOfTrailingZeros_0f7a4 32 rfl) rfl ?_
  refine V_bipush (pc := 50) (v := 16) X (th_da dtJ6_numberOfTrailingZeros_0f7a4 33 rfl) (by decide) ?_
  refine V_icmp_le (pc := 52) (tgt := 62) X (th_da dtJ6_numberOfTrailingZeros_0f7a4 34 rfl) (by decide) (fun c1 => ?_) (fun c1 => ?_)
  · rw [if_pos c1] at hf
    refine V_iinc (pc := 55) (v := y1 + 4) (ls2 := [.int y0, .int (y1 + 4)]) X (th_da dtJ6_numberOfTrailingZeros_0f7a4 35 rfl) rfl rfl (Nat.le_of_ble_eq_true rfl) rfl rfl ?_
    refine V_iload_n (pc := 58) X (th_da dtJ6_numberOfTrailingZeros_0f7a4 36 rfl) rfl ?_
    refine V_iconst (pc := 59) (v := 4) X (th_da dtJ6_numberOfTrailingZeros_0f7a4 37 rfl) (by decide) ?_
    refine V_iushr (pc := 60) (v := th_us y0 4) X (th_da dtJ6_numberOfTrailingZeros_0f7a4 38 rfl) rfl ?_
    refine V_istore_n (pc := 61) (ls2 := [.int (th_us y0 4), .int (y1 + 4)]) X (th_da dtJ6_numberOfTrailingZeros_0f7a4 39 rfl) (Nat.le_of_ble_eq_true rfl) rfl rfl ?_
    exact tJ6_numberOfTrailingZeros_0f7a4_c62 X _ _ _ hf
  · rw [if_neg c1] at hf
    exact tJ6_numberOfTrailingZeros_0f7a4_c62 X _ _ _ hf
set_option maxHeartbeats 4000000 in
set_option maxRecDepth 100000 in
theorem tJ6_numberOfTrailingZeros_0f7a4_c34 (X : th_X p0 s m args meth c D cI cZ ad LC 2 RJ6 cJ6_numberOfTrailingZeros_0f7a4 (some .int)) (y0 : Int32) (y1 : Int32) (h : th_H) (hf : fJ6_numberOfTrailingZeros_0f7a4_c34 y0 y1 h = some (rr, hh)) : th_V p0 l e { frames := 0, cells := 0, slots := 0, locals := 0 } s m args below meth c D cI cZ ad LC 2 (some (.int rr)) hh 34 [.int y0, .int y1] [] h := by
  unfold fJ6_numberOfTrailingZeros_0f7a4_c34 at hf
  refine V_iload_n (pc := 34) X (th_da dtJ6_numberOfTrailingZeros_0f7a4 24 rfl) rfl ?_
  refine V_sipush (pc := 35) (v := 256) X (th_da dtJ6_numberOfTrailingZeros_0f7a4 25 rfl) (by decide) ?_
  refine V_icmp_le (pc := 38) (tgt := 49) X (th_da dtJ6_numberOfTrailingZeros_0f7a4 26 rfl) (by decide) (fun c1 => ?_) (fun c1 => ?_)
  · rw [if_pos c1] at hf
    refine V_iinc (pc := 41) (v := y1 + 8) (ls2 := [.int y0, .int (y1 + 8)]) X (th_da dtJ6_numberOfTrailingZeros_0f7a4 27 rfl) rfl rfl (Nat.le_of_ble_eq_true rfl) rfl rfl ?_
    refine V_iload_n (pc := 44) X (th_da dtJ6_numberOfTrailingZeros_0f7a4 28 rfl) rfl ?_
    refine V_bipush (pc := 45) (v := 8) X (th_da dtJ6_numberOfTrailingZeros_0f7a4 29 rfl) (by decide) ?_
    refine V_iushr (pc := 47) (v := th_us y0 8) X (th_da dtJ6_numberOfTrailingZeros_0f7a4 30 rfl) rfl ?_
    refine V_istore_n (pc := 48) (ls2 := [.int (th_us y0 8), .int (y1 + 8)]) X (th_da dtJ6_numberOfTrailingZeros_0f7a4 31 rfl) (Nat.le_of_ble_eq_true rfl) rfl rfl ?_
    exact tJ6_numberOfTrailingZeros_0f7a4_c49 X _ _ _ hf
  · rw [if_neg c1] at hf
    exact tJ6_numberOfTrailingZeros_0f7a4_c49 X _ _ _ hf
set_option maxHeartbeats 4000000 in
set_option maxRecDepth 100000 in
theorem mJ6_numberOfTrailingZeros_0f7a4 (l : Launch) (x0 : Int32) (h : th_H) (rr : Int32) (hh : th_H) (hf : fJ6_numberOfTrailingZeros_0f7a4 x0 h = some (rr, hh)) : th_MI l LC yJ6_numberOfTrailingZeros_0f7a4 cJ6_numberOfTrailingZeros_0f7a4 2 (some .int) 0 0 [.int x0] h (some (.int rr)) hh := by
  refine th_MI_of (ls := [.int x0, .null]) RJ6 rfl rfl rfl (Nat.le_of_ble_eq_true rfl) ?_
  intro p0 e s m args below meth c D cI cZ ad X
  unfold fJ6_numberOfTrailingZeros_0f7a4 at hf
  refine V_iload_n (pc := 0) X (th_da dtJ6_numberOfTrailingZeros_0f7a4 0 rfl) rfl ?_
  refine V_iconst (pc := 1) (v := (-1)) X (th_da dtJ6_numberOfTrailingZeros_0f7a4 1 rfl) (by decide) ?_
  refine V_ixor (pc := 2) X (th_da dtJ6_numberOfTrailingZeros_0f7a4 2 rfl) ?_
  refine V_iload_n (pc := 3) X (th_da dtJ6_numberOfTrailingZeros_0f7a4 3 rfl) rfl ?_
  refine V_iconst (pc := 4) (v := 1) X (th_da dtJ6_numberOfTrailingZeros_0f7a4 4 rfl) (by decide) ?_
  refine V_isub (pc := 5) X (th_da dtJ6_numberOfTrailingZeros_0f7a4 5 rfl) ?_
  refine V_iand (pc := 6) X (th_da dtJ6_numberOfTrailingZeros_0f7a4 6 rfl) ?_
  refine V_istore_n (pc := 7) (ls2 := [.int ((x0 ^^^ (-1)) &&& (x0 - 1)), .null]) X (th_da dtJ6_numberOfTrailingZeros_0f7a4 7 rfl) (Nat.le_of_ble_eq_true rfl) rfl rfl ?_
  refine V_iload_n (pc := 8) X (th_da dtJ6_numberOfTrailingZeros_0f7a4 8 rfl) rfl ?_
  refine V_if_gt (pc := 9) (tgt := 17) X (th_da dtJ6_numberOfTrailingZeros_0f7a4 9 rfl) (by decide) (fun c1 => ?_) (fun c1 => ?_)
  · rw [if_pos c1] at hf
    refine V_iconst (pc := 17) (v := 1) X (th_da dtJ6_numberOfTrailingZeros_0f7a4 14 rfl) (by decide) ?_
    refine V_istore_n (pc := 18) (ls2 := [.int ((x0 ^^^ (-1)) &&& (x0 - 1)), .int 1]) X (th_da dtJ6_numberOfTrailingZeros_0f7a4 15 rfl) (Nat.le_of_ble_eq_true rfl) rfl rfl ?_
    refine V_iload_n (pc := 19) X (th_da dtJ6_numberOfTrailingZeros_0f7a4 16 rfl) rfl ?_
    refine V_ldcw (pc := 20) (v := 65536) X (th_da dtJ6_numberOfTrailingZeros_0f7a4 17 rfl) wco_J6_264 ?_
    refine V_icmp_le (pc := 23) (tgt := 34) X (th_da dtJ6_numberOfTrailingZeros_0f7a4 18 rfl) (by decide) (fun c2 => ?_) (fun c2 => ?_)
    · rw [if_pos c2] at hf
      refine V_iinc (pc := 26) (v := 1 + 16) (ls2 := [.int ((x0 ^^^ (-1)) &&& (x0 - 1)), .int (1 + 16)]) X (th_da dtJ6_numberOfTrailingZeros_0f7a4 19 rfl) rfl rfl (Nat.le_of_ble_eq_true rfl) rfl rfl ?_
      refine V_iload_n (pc := 29) X (th_da dtJ6_numberOfTrailingZeros_0f7a4 20 rfl) rfl ?_
      refine V_bipush (pc := 30) (v := 16) X (th_da dtJ6_numberOfTrailingZeros_0f7a4 21 rfl) (by decide) ?_
      refine V_iushr (pc := 32) (v := th_us ((x0 ^^^ (-1)) &&& (x0 - 1)) 16) X (th_da dtJ6_numberOfTrailingZeros_0f7a4 22 rfl) rfl ?_
      refine V_istore_n (pc := 33) (ls2 := [.int (th_us ((x0 ^^^ (-1)) &&& (x0 - 1)) 16), .int (1 + 16)]) X (th_da dtJ6_numberOfTrailingZeros_0f7a4 23 rfl) (Nat.le_of_ble_eq_true rfl) rfl rfl ?_
      exact tJ6_numberOfTrailingZeros_0f7a4_c34 X _ _ _ hf
    · rw [if_neg c2] at hf
      exact tJ6_numberOfTrailingZeros_0f7a4_c34 X _ _ _ hf
  · rw [if_neg c1] at hf
    refine V_iload_n (pc := 12) X (th_da dtJ6_numberOfTrailingZeros_0f7a4 10 rfl) rfl ?_
    refine V_bipush (pc := 13) (v := 32) X (th_da dtJ6_numberOfTrailingZeros_0f7a4 11 rfl) (by decide) ?_
    refine V_iand (pc := 15) X (th_da dtJ6_numberOfTrailingZeros_0f7a4 12 rfl) ?_
    exact V_iretF (pc := 16) X (th_da dtJ6_numberOfTrailingZeros_0f7a4 13 rfl) hf
end
def fX0_linksInUse_c4 (p : Nat) : Nat → Int32 → Int32 → th_H → Option (Int32 × th_H)
  | 0, _, _, _ => none
  | n + 1, y1, y2, h =>
    if (y2 < 10 : Prop) then
      th_rd h (p + 2) 10 y2 fun v2 =>
      if (v2 = 0 : Prop) then
        fX0_linksInUse_c4 p n (y1 ||| 0) (y2 + 1) h
      else
        fX0_linksInUse_c4 p n (y1 ||| ((1 : Int32) <<< (y2 &&& 31))) (y2 + 1) h
    else
      some (y1, h)
def fX0_linksInUse (p : Nat) (h : th_H) : Option (Int32 × th_H) :=
  fX0_linksInUse_c4 p 1000 0 0 h
def tbX0_linksInUse : List (Nat × Instr × Nat) := [(0, .iconst 0, 1), (1, .istore_n 1, 1), (2, .iconst 0, 1), (3, .istore_n 2, 1), (4, .iload_n 2, 1), (5, .bipush 10, 2), (7, .if_icmp .ge 28, 3), (10, .iload_n 1, 1), (11, .aload_n 0, 1), (12, .getfield 15, 3), (15, .iload_n 2, 1), (16, .iaload, 1), (17, .ifCond .eq 9, 3), (20, .iconst 1, 1), (21, .iload_n 2, 1), (22, .ishl, 1), (23, .goto 4, 3), (26, .iconst 0, 1), (27, .ior, 1), (28, .istore_n 1, 1), (29, .iinc 2 1, 3), (32, .goto (-28), 3), (35, .iload_n 1, 1), (36, .ireturn, 1)]
theorem dtX0_linksInUse : th_dec cX0_linksInUse tbX0_linksInUse = true := by decide +kernel
section
variable {p0 : Program} {l : Launch} {e : Env} {s : State} {m : MethodId} {args : Array Value} {below : List Frame} {meth : Method} {c : Code} {D : va_G} {cI cZ : ClassId} {ad : Nat → Nat} {rr : Int32} {hh : th_H}
set_option maxHeartbeats 4000000 in
set_option maxRecDepth 100000 in
theorem tX0_linksInUse_c4 (X : th_X p0 s m args meth c D cI cZ ad LC 3 RX0 cX0_linksInUse (some .int)) (p : Nat) (hp : isP p) : ∀ (n : Nat) (y1 : Int32) (y2 : Int32) (h : th_H), fX0_linksInUse_c4 p n y1 y2 h = some (rr, hh) → th_V p0 l e { frames := 0, cells := 0, slots := 0, locals := 0 } s m args below meth c D cI cZ ad LC 3 (some (.int rr)) hh 4 [.ref p, .int y1, .int y2] [] h := by
  intro n
  induction n with
  | zero => intro y1 y2 h hf; cases hf
  | succ n ih =>
    intro y1 y2 h hf
    rw [fX0_linksInUse_c4] at hf
    refine V_iload_n (pc := 4) X (th_da dtX0_linksInUse 4 rfl) rfl ?_
    refine V_bipush (pc := 5) (v := 10) X (th_da dtX0_linksInUse 5 rfl) (by decide) ?_
    refine V_icmp_ge (pc := 7) (tgt := 35) X (th_da dtX0_linksInUse 6 rfl) (by decide) (fun c1 => ?_) (fun c1 => ?_)
    · rw [if_pos c1] at hf
      refine V_iload_n (pc := 10) X (th_da dtX0_linksInUse 7 rfl) rfl ?_
      refine V_aload_n (pc := 11) X (th_da dtX0_linksInUse 8 rfl) rfl ?_
      refine V_getR (pc := 12) (j := 1) (t := (p + 2)) X (th_da dtX0_linksInUse 9 rfl) wfl_X0_15 iX0 rfl (P_0 hp) (Nat.le_of_ble_eq_true rfl) rfl ?_
      refine V_iload_n (pc := 15) X (th_da dtX0_linksInUse 10 rfl) rfl ?_
      obtain ⟨v2, e2, g2, hf⟩ := th_rd_some hf
      refine V_iald (pc := 16) X (th_da dtX0_linksInUse 11 rfl) (P_2 hp) g2 e2 ?_
      refine V_if_eq (pc := 17) (tgt := 26) X (th_da dtX0_linksInUse 12 rfl) (by decide) (fun c3 => ?_) (fun c3 => ?_)
      · rw [if_pos c3] at hf
        refine V_iconst (pc := 26) (v := 0) X (th_da dtX0_linksInUse 17 rfl) (by decide) ?_
        refine V_ior (pc := 27) X (th_da dtX0_linksInUse 18 rfl) ?_
        refine V_istore_n (pc := 28) (ls2 := [.ref p, .int (y1 ||| 0), .int y2]) X (th_da dtX0_linksInUse 19 rfl) (Nat.le_of_ble_eq_true rfl) rfl rfl ?_
        refine V_iinc (pc := 29) (v := y2 + 1) (ls2 := [.ref p, .int (y1 ||| 0), .int (y2 + 1)]) X (th_da dtX0_linksInUse 20 rfl) rfl rfl (Nat.le_of_ble_eq_true rfl) rfl rfl ?_
        refine V_goto (pc := 32) (tgt := 4) X (th_da dtX0_linksInUse 21 rfl) (by decide) ?_
        exact ih _ _ _ hf
      · rw [if_neg c3] at hf
        refine V_iconst (pc := 20) (v := 1) X (th_da dtX0_linksInUse 13 rfl) (by decide) ?_
        refine V_iload_n (pc := 21) X (th_da dtX0_linksInUse 14 rfl) rfl ?_
        refine V_ishl (pc := 22) X (th_da dtX0_linksInUse 15 rfl) ?_
        refine V_goto (pc := 23) (tgt := 27) X (th_da dtX0_linksInUse 16 rfl) (by decide) ?_
        refine V_ior (pc := 27) X (th_da dtX0_linksInUse 18 rfl) ?_
        refine V_istore_n (pc := 28) (ls2 := [.ref p, .int (y1 ||| ((1 : Int32) <<< (y2 &&& 31))), .int y2]) X (th_da dtX0_linksInUse 19 rfl) (Nat.le_of_ble_eq_true rfl) rfl rfl ?_
        refine V_iinc (pc := 29) (v := y2 + 1) (ls2 := [.ref p, .int (y1 ||| ((1 : Int32) <<< (y2 &&& 31))), .int (y2 + 1)]) X (th_da dtX0_linksInUse 20 rfl) rfl rfl (Nat.le_of_ble_eq_true rfl) rfl rfl ?_
        refine V_goto (pc := 32) (tgt := 4) X (th_da dtX0_linksInUse 21 rfl) (by decide) ?_
        exact ih _ _ _ hf
    · rw [if_neg c1] at hf
      refine V_iload_n (pc := 35) X (th_da dtX0_linksInUse 22 rfl) rfl ?_
      exact V_iretF (pc := 36) X (th_da dtX0_linksInUse 23 rfl) hf
set_option maxHeartbeats 4000000 in
set_option maxRecDepth 100000 in
theorem mX0_linksInUse (l : Launch) (p : Nat) (hp : isP p) (h : th_H) (rr : Int32) (hh : th_H) (hf : fX0_linksInUse p h = some (rr, hh)) : th_MI l LC yX0_linksInUse cX0_linksInUse 3 (some .int) 0 0 [.ref p] h (some (.int rr)) hh := by
  refine th_MI_of (ls := [.ref p, .null, .null]) RX0 rfl rfl rfl (Nat.le_of_ble_eq_true rfl) ?_
  intro p0 e s m args below meth c D cI cZ ad X
  unfold fX0_linksInUse at hf
  refine V_iconst (pc := 0) (v := 0) X (th_da dtX0_linksInUse 0 rfl) (by decide) ?_
  refine V_istore_n (pc := 1) (ls2 := [.ref p, .int 0, .null]) X (th_da dtX0_linksInUse 1 rfl) (Nat.le_of_ble_eq_true rfl) rfl rfl ?_
  refine V_iconst (pc := 2) (v := 0) X (th_da dtX0_linksInUse 2 rfl) (by decide) ?_
  refine V_istore_n (pc := 3) (ls2 := [.ref p, .int 0, .int 0]) X (th_da dtX0_linksInUse 3 rfl) (Nat.le_of_ble_eq_true rfl) rfl rfl ?_
  exact tX0_linksInUse_c4 X _ hp _ _ _ _ hf
end
