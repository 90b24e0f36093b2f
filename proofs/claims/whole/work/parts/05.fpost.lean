def fX3_isLink (x0 : Int32) (h : th_H) : Option (Int32 × th_H) :=
  if (x0 < 0 : Prop) then
    some (0, h)
  else
    if (x0 < 10 : Prop) then
      some (1, h)
    else
      some (0, h)
def tbX3_isLink : List (Nat × Instr × Nat) := [(0, .iload_n 0, 1), (1, .ifCond .lt 13, 3), (4, .iload_n 0, 1), (5, .bipush 10, 2), (7, .if_icmp .ge 7, 3), (10, .iconst 1, 1), (11, .goto 4, 3), (14, .iconst 0, 1), (15, .ireturn, 1)]
theorem dtX3_isLink : th_dec cX3_isLink tbX3_isLink = true := by decide +kernel
section
variable {p0 : Program} {l : Launch} {e : Env} {s : State} {m : MethodId} {args : Array Value} {below : List Frame} {meth : Method} {c : Code} {D : va_G} {cI cZ : ClassId} {ad : Nat → Nat} {rr : Int32} {hh : th_H}
set_option maxHeartbeats 4000000 in
set_option maxRecDepth 100000 in
theorem mX3_isLink (l : Launch) (x0 : Int32) (h : th_H) (rr : Int32) (hh : th_H) (hf : fX3_isLink x0 h = some (rr, hh)) : th_MI l LC yX3_isLink cX3_isLink 1 (some .boolean) 0 0 [.int x0] h (some (.int rr)) hh := by
  refine th_MI_of (ls := [.int x0]) RX3 rfl rfl rfl (Nat.le_of_ble_eq_true rfl) ?_
  intro p0 e s m args below meth c D cI cZ ad X
  unfold fX3_isLink at hf
  refine V_iload_n (pc := 0) X (th_da dtX3_isLink 0 rfl) rfl ?_
  refine V_if_lt (pc := 1) (tgt := 14) X (th_da dtX3_isLink 1 rfl) (by decide) (fun c1 => ?_) (fun c1 => ?_)
  · rw [if_pos c1] at hf
    refine V_iconst (pc := 14) (v := 0) X (th_da dtX3_isLink 7 rfl) (by decide) ?_
    exact V_zretF (pc := 15) X (th_da dtX3_isLink 8 rfl) (Or.inl rfl) hf
  · rw [if_neg c1] at hf
    refine V_iload_n (pc := 4) X (th_da dtX3_isLink 2 rfl) rfl ?_
    refine V_bipush (pc := 5) (v := 10) X (th_da dtX3_isLink 3 rfl) (by decide) ?_
    refine V_icmp_ge (pc := 7) (tgt := 14) X (th_da dtX3_isLink 4 rfl) (by decide) (fun c2 => ?_) (fun c2 => ?_)
    · rw [if_pos c2] at hf
      refine V_iconst (pc := 10) (v := 1) X (th_da dtX3_isLink 5 rfl) (by decide) ?_
      refine V_goto (pc := 11) (tgt := 15) X (th_da dtX3_isLink 6 rfl) (by decide) ?_
      exact V_zretF (pc := 15) X (th_da dtX3_isLink 8 rfl) (Or.inr rfl) hf
    · rw [if_neg c2] at hf
      refine V_iconst (pc := 14) (v := 0) X (th_da dtX3_isLink 7 rfl) (by decide) ?_
      exact V_zretF (pc := 15) X (th_da dtX3_isLink 8 rfl) (Or.inl rfl) hf
end
def fX1_takeIn (q : Nat) (x1 : Int32) (x2 : Int32) (x3 : Int32) (x4 : Int32) (x5 : Int32) (h : th_H) : Option (Int32 × th_H) :=
  th_bd (fX0_add (q + 1) x1 x2 x3 x4 x5 h) fun u1 h1 =>
  some (u1, h1)
def tbX1_takeIn : List (Nat × Instr × Nat) := [(0, .aload_n 0, 1), (1, .getfield 12, 3), (4, .iload_n 1, 1), (5, .iload_n 2, 1), (6, .iload_n 3, 1), (7, .iload 4, 2), (9, .iload 5, 2), (11, .invokevirtual 79, 3), (14, .ireturn, 1)]
theorem dtX1_takeIn : th_dec cX1_takeIn tbX1_takeIn = true := by decide +kernel
section
variable {p0 : Program} {l : Launch} {e : Env} {s : State} {m : MethodId} {args : Array Value} {below : List Frame} {meth : Method} {c : Code} {D : va_G} {cI cZ : ClassId} {ad : Nat → Nat} {rr : Int32} {hh : th_H}
set_option maxHeartbeats 4000000 in
set_option maxRecDepth 100000 in
theorem mX1_takeIn (l : Launch) (q : Nat) (hq : isQ q) (x1 : Int32) (x2 : Int32) (x3 : Int32) (x4 : Int32) (x5 : Int32) (h : th_H) (rr : Int32) (hh : th_H) (hf : fX1_takeIn q x1 x2 x3 x4 x5 h = some (rr, hh)) : th_MI l LC yX1_takeIn cX1_takeIn 6 (some .int) 3 72 [.ref q, .int x1, .int x2, .int x3, .int x4, .int x5] h (some (.int rr)) hh := by
  refine th_MI_of (ls := [.ref q, .int x1, .int x2, .int x3, .int x4, .int x5]) RX1 rfl rfl rfl (Nat.le_of_ble_eq_true rfl) ?_
  intro p0 e s m args below meth c D cI cZ ad X
  unfold fX1_takeIn at hf
  refine V_aload_n (pc := 0) X (th_da dtX1_takeIn 0 rfl) rfl ?_
  refine V_getR (pc := 1) (j := 0) (t := (q + 1)) X (th_da dtX1_takeIn 1 rfl) wfl_X1_12 iX1 rfl (Q_0 hq) (Nat.le_of_ble_eq_true rfl) rfl ?_
  refine V_iload_n (pc := 4) X (th_da dtX1_takeIn 2 rfl) rfl ?_
  refine V_iload_n (pc := 5) X (th_da dtX1_takeIn 3 rfl) rfl ?_
  refine V_iload_n (pc := 6) X (th_da dtX1_takeIn 4 rfl) rfl ?_
  refine V_iload (pc := 7) X (th_da dtX1_takeIn 5 rfl) rfl ?_
  refine V_iload (pc := 9) X (th_da dtX1_takeIn 6 rfl) rfl ?_
  obtain ⟨u1, h1, e1, hf⟩ := th_bd_some hf
  refine V_callVi (pc := 11) (q := (q + 1)) (As := [.int x1, .int x2, .int x3, .int x4, .int x5]) X (th_da dtX1_takeIn 7 rfl) (mX0_add l (q + 1) (Q_p hq) _ _ _ _ _ _ _ _ e1) wcd_X0_add wml_X1_79 wim_X0_add wse_X0_add win_X0_add hd_X0_add ⟨Nat.le_of_ble_eq_true rfl, Nat.le_of_ble_eq_true rfl⟩ (Nat.le_of_ble_eq_true rfl) rfl (P_0 (Q_p hq)) rfl ?_
  exact V_iretF (pc := 14) X (th_da dtX1_takeIn 8 rfl) hf
end
def fX1_forgetAt (q : Nat) (x1 : Int32) (x2 : Int32) (h : th_H) : Option (Unit × th_H) :=
  th_wr h (q + 9) 200 ((x1 * 10) + x2) 1000000 fun h1 =>
  th_wr h1 (q + 10) 200 ((x1 * 10) + x2) 1000000 fun h2 =>
  th_wr h2 (q + 16) 10 x2 (-1) fun h3 =>
  some ((), h3)
def tbX1_forgetAt : List (Nat × Instr × Nat) := [(0, .aload_n 0, 1), (1, .getfield 18, 3), (4, .iload_n 1, 1), (5, .bipush 10, 2), (7, .imul, 1), (8, .iload_n 2, 1), (9, .iadd, 1), (10, .ldc 50, 2), (12, .iastore, 1), (13, .aload_n 0, 1), (14, .getfield 22, 3), (17, .iload_n 1, 1), (18, .bipush 10, 2), (20, .imul, 1), (21, .iload_n 2, 1), (22, .iadd, 1), (23, .ldc 50, 2), (25, .iastore, 1), (26, .aload_n 0, 1), (27, .getfield 40, 3), (30, .iload_n 2, 1), (31, .iconst (-1), 1), (32, .iastore, 1), (33, .return_, 1)]
theorem dtX1_forgetAt : th_dec cX1_forgetAt tbX1_forgetAt = true := by decide +kernel
section
variable {p0 : Program} {l : Launch} {e : Env} {s : State} {m : MethodId} {args : Array Value} {below : List Frame} {meth : Method} {c : Code} {D : va_G} {cI cZ : ClassId} {ad : Nat → Nat} {rr : Unit} {hh : th_H}
set_option maxHeartbeats 4000000 in
set_option maxRecDepth 100000 in
theorem mX1_forgetAt (l : Launch) (q : Nat) (hq : isQ q) (x1 : Int32) (x2 : Int32) (h : th_H) (rr : Unit) (hh : th_H) (hf : fX1_forgetAt q x1 x2 h = some (rr, hh)) : th_MI l LC yX1_forgetAt cX1_forgetAt 3 none 0 0 [.ref q, .int x1, .int x2] h none hh := by
  refine th_MI_of (ls := [.ref q, .int x1, .int x2]) RX1 rfl rfl rfl (Nat.le_of_ble_eq_true rfl) ?_
  intro p0 e s m args below meth c D cI cZ ad X
  unfold fX1_forgetAt at hf
  refine V_aload_n (pc := 0) X (th_da dtX1_forgetAt 0 rfl) rfl ?_
  refine V_getR (pc := 1) (j := 1) (t := (q + 9)) X (th_da dtX1_forgetAt 1 rfl) wfl_X1_18 iX1 rfl (Q_0 hq) (Nat.le_of_ble_eq_true rfl) rfl ?_
  refine V_iload_n (pc := 4) X (th_da dtX1_forgetAt 2 rfl) rfl ?_
  refine V_bipush (pc := 5) (v := 10) X (th_da dtX1_forgetAt 3 rfl) (by decide) ?_
  refine V_imul (pc := 7) X (th_da dtX1_forgetAt 4 rfl) ?_
  refine V_iload_n (pc := 8) X (th_da dtX1_forgetAt 5 rfl) rfl ?_
  refine V_iadd (pc := 9) X (th_da dtX1_forgetAt 6 rfl) ?_
  refine V_ldc (pc := 10) (v := 1000000) X (th_da dtX1_forgetAt 7 rfl) wco_X1_50 ?_
  obtain ⟨h1, e1, g1, hf⟩ := th_wr_some hf
  refine V_iast (pc := 12) X (th_da dtX1_forgetAt 8 rfl) (Q_9 hq) g1 e1 ?_
  refine V_aload_n (pc := 13) X (th_da dtX1_forgetAt 9 rfl) rfl ?_
  refine V_getR (pc := 14) (j := 2) (t := (q + 10)) X (th_da dtX1_forgetAt 10 rfl) wfl_X1_22 iX1 rfl (Q_0 hq) (Nat.le_of_ble_eq_true rfl) rfl ?_
  refine V_iload_n (pc := 17) X (th_da dtX1_forgetAt 11 rfl) rfl ?_
  refine V_bipush (pc := 18) (v := 10) X (th_da dtX1_forgetAt 12 rfl) (by decide) ?_
  refine V_imul (pc := 20) X (th_da dtX1_forgetAt 13 rfl) ?_
  refine V_iload_n (pc := 21) X (th_da dtX1_forgetAt 14 rfl) rfl ?_
  refine V_iadd (pc := 22) X (th_da dtX1_forgetAt 15 rfl) ?_
  refine V_ldc (pc := 23) (v := 1000000) X (th_da dtX1_forgetAt 16 rfl) wco_X1_50 ?_
  obtain ⟨h2, e2, g2, hf⟩ := th_wr_some hf
  refine V_iast (pc := 25) X (th_da dtX1_forgetAt 17 rfl) (Q_10 hq) g2 e2 ?_
  refine V_aload_n (pc := 26) X (th_da dtX1_forgetAt 18 rfl) rfl ?_
  refine V_getR (pc := 27) (j := 12) (t := (q + 16)) X (th_da dtX1_forgetAt 19 rfl) wfl_X1_40 iX1 rfl (Q_0 hq) (Nat.le_of_ble_eq_true rfl) rfl ?_
  refine V_iload_n (pc := 30) X (th_da dtX1_forgetAt 20 rfl) rfl ?_
  refine V_iconst (pc := 31) (v := (-1)) X (th_da dtX1_forgetAt 21 rfl) (by decide) ?_
  obtain ⟨h3, e3, g3, hf⟩ := th_wr_some hf
  refine V_iast (pc := 32) X (th_da dtX1_forgetAt 22 rfl) (Q_16 hq) g3 e3 ?_
  exact V_vretF (pc := 33) X (th_da dtX1_forgetAt 23 rfl) hf
end
def fX1_forgetFlow_c2 (q : Nat) : Nat → Int32 → Int32 → th_H → Option (Unit × th_H)
  | 0, _, _, _ => none
  | n + 1, y1, y2, h =>
    if (y2 < 10 : Prop) then
      th_bd (fX1_forgetAt q y1 y2 h) fun _u2 h2 =>
      fX1_forgetFlow_c2 q n y1 (y2 + 1) h2
    else
      th_wr h (q + 11) 20 y1 0 fun h3 =>
      th_wr h3 (q + 13) 20 y1 0 fun h4 =>
      some ((), h4)
def fX1_forgetFlow (q : Nat) (x1 : Int32) (h : th_H) : Option (Unit × th_H) :=
  fX1_forgetFlow_c2 q 1000 x1 0 h
def tbX1_forgetFlow : List (Nat × Instr × Nat) := [(0, .iconst 0, 1), (1, .istore_n 2, 1), (2, .iload_n 2, 1), (3, .bipush 10, 2), (5, .if_icmp .ge 15, 3), (8, .aload_n 0, 1), (9, .iload_n 1, 1), (10, .iload_n 2, 1), (11, .invokevirtual 98, 3), (14, .iinc 2 1, 3), (17, .goto (-15), 3), (20, .aload_n 0, 1), (21, .getfield 25, 3), (24, .iload_n 1, 1), (25, .iconst 0, 1), (26, .iastore, 1), (27, .aload_n 0, 1), (28, .getfield 31, 3), (31, .iload_n 1, 1), (32, .iconst 0, 1), (33, .iastore, 1), (34, .return_, 1)]
theorem dtX1_forgetFlow : th_dec cX1_forgetFlow tbX1_forgetFlow = true := by decide +kernel
section
variable {p0 : Program} {l : Launch} {e : Env} {s : State} {m : MethodId} {args : Array Value} {below : List Frame} {meth : Method} {c : Code} {D : va_G} {cI cZ : ClassId} {ad : Nat → Nat} {rr : Unit} {hh : th_H}
set_option maxHeartbeats 4000000 in
set_option maxRecDepth 100000 in
theorem tX1_forgetFlow_c2 (X : th_X p0 s m args meth c D cI cZ ad LC 3 RX1 cX1_forgetFlow none) (q : Nat) (hq : isQ q) : ∀ (n : Nat) (y1 : Int32) (y2 : Int32) (h : th_H), fX1_forgetFlow_c2 q n y1 y2 h = some (rr, hh) → th_V p0 l e { frames := 1, cells := 0, slots := 0, locals := 22 } s m args below meth c D cI cZ ad LC 3 none hh 2 [.ref q, .int y1, .int y2] [] h := by
  intro n
  induction n with
  | zero => intro y1 y2 h hf; cases hf
  | succ n ih =>
    intro y1 y2 h hf
    rw [fX1_forgetFlow_c2] at hf
    refine V_iload_n (pc := 2) X (th_da dtX1_forgetFlow 2 rfl) rfl ?_
    refine V_bipush (pc := 3) (v := 10) X (th_da dtX1_forgetFlow 3 rfl) (by decide) ?_
    refine V_icmp_ge (pc := 5) (tgt := 20) X (th_da dtX1_forgetFlow 4 rfl) (by decide) (fun c1 => ?_) (fun c1 => ?_)
    · rw [if_pos c1] at hf
      refine V_aload_n (pc := 8) X (th_da dtX1_forgetFlow 5 rfl) rfl ?_
      refine V_iload_n (pc := 9) X (th_da dtX1_forgetFlow 6 rfl) rfl ?_
      refine V_iload_n (pc := 10) X (th_da dtX1_forgetFlow 7 rfl) rfl ?_
      obtain ⟨u2, h2, e2, hf⟩ := th_bd_some hf
      refine V_callVv (pc := 11) (q := q) (As := [.int y1, .int y2]) X (th_da dtX1_forgetFlow 8 rfl) (mX1_forgetAt l q hq _ _ _ _ _ e2) wcd_X1_forgetAt wml_X1_98 wim_X1_forgetAt wse_X1_forgetAt win_X1_forgetAt hd_X1_forgetAt ⟨Nat.le_of_ble_eq_true rfl, Nat.le_of_ble_eq_true rfl⟩ (Nat.le_of_ble_eq_true rfl) rfl (Q_0 hq) rfl ?_
      refine V_iinc (pc := 14) (v := y2 + 1) (ls2 := [.ref q, .int y1, .int (y2 + 1)]) X (th_da dtX1_forgetFlow 9 rfl) rfl rfl (Nat.le_of_ble_eq_true rfl) rfl rfl ?_
      refine V_goto (pc := 17) (tgt := 2) X (th_da dtX1_forgetFlow 10 rfl) (by decide) ?_
      exact ih _ _ _ hf
    · rw [if_neg c1] at hf
      refine V_aload_n (pc := 20) X (th_da dtX1_forgetFlow 11 rfl) rfl ?_
      refine V_getR (pc := 21) (j := 3) (t := (q + 11)) X (th_da dtX1_forgetFlow 12 rfl) wfl_X1_25 iX1 rfl (Q_0 hq) (Nat.le_of_ble_eq_true rfl) rfl ?_
      refine V_iload_n (pc := 24) X (th_da dtX1_forgetFlow 13 rfl) rfl ?_
      refine V_iconst (pc := 25) (v := 0) X (th_da dtX1_forgetFlow 14 rfl) (by decide) ?_
      obtain ⟨h3, e3, g3, hf⟩ := th_wr_some hf
      refine V_iast (pc := 26) X (th_da dtX1_forgetFlow 15 rfl) (Q_11 hq) g3 e3 ?_
      refine V_aload_n (pc := 27) X (th_da dtX1_forgetFlow 16 rfl) rfl ?_
      refine V_getR (pc := 28) (j := 5) (t := (q + 13)) X (th_da dtX1_forgetFlow 17 rfl) wfl_X1_31 iX1 rfl (Q_0 hq) (Nat.le_of_ble_eq_true rfl) rfl ?_
      refine V_iload_n (pc := 31) X (th_da dtX1_forgetFlow 18 rfl) rfl ?_
      refine V_iconst (pc := 32) (v := 0) X (th_da dtX1_forgetFlow 19 rfl) (by decide) ?_
      obtain ⟨h4, e4, g4, hf⟩ := th_wr_some hf
      refine V_iast (pc := 33) X (th_da dtX1_forgetFlow 20 rfl) (Q_13 hq) g4 e4 ?_
      exact V_vretF (pc := 34) X (th_da dtX1_forgetFlow 21 rfl) hf
set_option maxHeartbeats 4000000 in
set_option maxRecDepth 100000 in
theorem mX1_forgetFlow (l : Launch) (q : Nat) (hq : isQ q) (x1 : Int32) (h : th_H) (rr : Unit) (hh : th_H) (hf : fX1_forgetFlow q x1 h = some (rr, hh)) : th_MI l LC yX1_forgetFlow cX1_forgetFlow 3 none 1 22 [.ref q, .int x1] h none hh := by
  refine th_MI_of (ls := [.ref q, .int x1, .null]) RX1 rfl rfl rfl (Nat.le_of_ble_eq_true rfl) ?_
  intro p0 e s m args below meth c D cI cZ ad X
  unfold fX1_forgetFlow at hf
  refine V_iconst (pc := 0) (v := 0) X (th_da dtX1_forgetFlow 0 rfl) (by decide) ?_
  refine V_istore_n (pc := 1) (ls2 := [.ref q, .int x1, .int 0]) X (th_da dtX1_forgetFlow 1 rfl) (Nat.le_of_ble_eq_true rfl) rfl rfl ?_
  exact tX1_forgetFlow_c2 X _ hq _ _ _ _ hf
end
def fX1_letGo (q : Nat) (x1 : Int32) (h : th_H) : Option (Unit × th_H) :=
  th_bd (fX0_remove (q + 1) x1 h) fun _u1 h1 =>
  th_bd (fX1_forgetFlow q x1 h1) fun _u2 h2 =>
  th_st (th_up h2 q 8 ((h2.1 q 8) &&& (((1 : Int32) <<< (x1 &&& 31)) ^^^ (-1)))) fun h3 =>
  some ((), h3)
def tbX1_letGo : List (Nat × Instr × Nat) := [(0, .aload_n 0, 1), (1, .getfield 12, 3), (4, .iload_n 1, 1), (5, .invokevirtual 83, 3), (8, .aload_n 0, 1), (9, .iload_n 1, 1), (10, .invokevirtual 87, 3), (13, .aload_n 0, 1), (14, .dup, 1), (15, .getfield 67, 3), (18, .iconst 1, 1), (19, .iload_n 1, 1), (20, .ishl, 1), (21, .iconst (-1), 1), (22, .ixor, 1), (23, .iand, 1), (24, .putfield 67, 3), (27, .return_, 1)]
theorem dtX1_letGo : th_dec cX1_letGo tbX1_letGo = true := by decide +kernel
section
variable {p0 : Program} {l : Launch} {e : Env} {s : State} {m : MethodId} {args : Array Value} {below : List Frame} {meth : Method} {c : Code} {D : va_G} {cI cZ : ClassId} {ad : Nat → Nat} {rr : Unit} {hh : th_H}
set_option maxHeartbeats 4000000 in
set_option maxRecDepth 100000 in
theorem mX1_letGo (l : Launch) (q : Nat) (hq : isQ q) (x1 : Int32) (h : th_H) (rr : Unit) (hh : th_H) (hf : fX1_letGo q x1 h = some (rr, hh)) : th_MI l LC yX1_letGo cX1_letGo 2 none 3 67 [.ref q, .int x1] h none hh := by
  refine th_MI_of (ls := [.ref q, .int x1]) RX1 rfl rfl rfl (Nat.le_of_ble_eq_true rfl) ?_
  intro p0 e s m args below meth c D cI cZ ad X
  unfold fX1_letGo at hf
  refine V_aload_n (pc := 0) X (th_da dtX1_letGo 0 rfl) rfl ?_
  refine V_getR (pc := 1) (j := 0) (t := (q + 1)) X (th_da dtX1_letGo 1 rfl) wfl_X1_12 iX1 rfl (Q_0 hq) (Nat.le_of_ble_eq_true rfl) rfl ?_
  refine V_iload_n (pc := 4) X (th_da dtX1_letGo 2 rfl) rfl ?_
  obtain ⟨u1, h1, e1, hf⟩ := th_bd_some hf
  refine V_callVv (pc := 5) (q := (q + 1)) (As := [.int x1]) X (th_da dtX1_letGo 3 rfl) (mX0_remove l (q + 1) (Q_p hq) _ _ _ _ e1) wcd_X0_remove wml_X1_83 wim_X0_remove wse_X0_remove win_X0_remove hd_X0_remove ⟨Nat.le_of_ble_eq_true rfl, Nat.le_of_ble_eq_true rfl⟩ (Nat.le_of_ble_eq_true rfl) rfl (P_0 (Q_p hq)) rfl ?_
  refine V_aload_n (pc := 8) X (th_da dtX1_letGo 4 rfl) rfl ?_
  refine V_iload_n (pc := 9) X (th_da dtX1_letGo 5 rfl) rfl ?_
  obtain ⟨u2, h2, e2, hf⟩ := th_bd_some hf
  refine V_callVv (pc := 10) (q := q) (As := [.int x1]) X (th_da dtX1_letGo 6 rfl) (mX1_forgetFlow l q hq _ _ _ _ e2) wcd_X1_forgetFlow wml_X1_87 wim_X1_forgetFlow wse_X1_forgetFlow win_X1_forgetFlow hd_X1_forgetFlow ⟨Nat.le_of_ble_eq_true rfl, Nat.le_of_ble_eq_true rfl⟩ (Nat.le_of_ble_eq_true rfl) rfl (Q_0 hq) rfl ?_
  refine V_aload_n (pc := 13) X (th_da dtX1_letGo 7 rfl) rfl ?_
  refine V_dup (pc := 14) X (th_da dtX1_letGo 8 rfl) rfl ?_
  refine V_getI (pc := 15) (j := 8) X (th_da dtX1_letGo 9 rfl) wfl_X1_67 iX1 rfl (Q_0 hq) (Nat.le_of_ble_eq_true rfl) rfl ?_
  refine V_iconst (pc := 18) (v := 1) X (th_da dtX1_letGo 10 rfl) (by decide) ?_
  refine V_iload_n (pc := 19) X (th_da dtX1_letGo 11 rfl) rfl ?_
  refine V_ishl (pc := 20) X (th_da dtX1_letGo 12 rfl) ?_
  refine V_iconst (pc := 21) (v := (-1)) X (th_da dtX1_letGo 13 rfl) (by decide) ?_
  refine V_ixor (pc := 22) X (th_da dtX1_letGo 14 rfl) ?_
  refine V_iand (pc := 23) X (th_da dtX1_letGo 15 rfl) ?_
  obtain ⟨h3, e3, hf⟩ := th_st_some hf
  refine V_putI (pc := 24) (j := 8) (ty := .int) X (th_da dtX1_letGo 16 rfl) wfl_X1_67 iX1 rfl (Q_0 hq) (Nat.le_of_ble_eq_true rfl) rfl tyX1 tyX1_ok nmX1 rfl (tyX1_ok 8 (Nat.le_of_ble_eq_true rfl)) rfl rfl e3 ?_
  exact V_vretF (pc := 27) X (th_da dtX1_letGo 17 rfl) hf
end
def fX1_isHeld (q : Nat) (x1 : Int32) (h : th_H) : Option (Int32 × th_H) :=
  if ((((h.1 q 8) >>> (x1 &&& 31)) &&& 1) = 0 : Prop) then
    some (0, h)
  else
    some (1, h)
def tbX1_isHeld : List (Nat × Instr × Nat) := [(0, .aload_n 0, 1), (1, .getfield 67, 3), (4, .iload_n 1, 1), (5, .ishr, 1), (6, .iconst 1, 1), (7, .iand, 1), (8, .ifCond .eq 7, 3), (11, .iconst 1, 1), (12, .goto 4, 3), (15, .iconst 0, 1), (16, .ireturn, 1)]
theorem dtX1_isHeld : th_dec cX1_isHeld tbX1_isHeld = true := by decide +kernel
section
variable {p0 : Program} {l : Launch} {e : Env} {s : State} {m : MethodId} {args : Array Value} {below : List Frame} {meth : Method} {c : Code} {D : va_G} {cI cZ : ClassId} {ad : Nat → Nat} {rr : Int32} {hh : th_H}
set_option maxHeartbeats 4000000 in
set_option maxRecDepth 100000 in
theorem mX1_isHeld (l : Launch) (q : Nat) (hq : isQ q) (x1 : Int32) (h : th_H) (rr : Int32) (hh : th_H) (hf : fX1_isHeld q x1 h = some (rr, hh)) : th_MI l LC yX1_isHeld cX1_isHeld 2 (some .boolean) 0 0 [.ref q, .int x1] h (some (.int rr)) hh := by
  refine th_MI_of (ls := [.ref q, .int x1]) RX1 rfl rfl rfl (Nat.le_of_ble_eq_true rfl) ?_
  intro p0 e s m args below meth c D cI cZ ad X
  unfold fX1_isHeld at hf
  refine V_aload_n (pc := 0) X (th_da dtX1_isHeld 0 rfl) rfl ?_
  refine V_getI (pc := 1) (j := 8) X (th_da dtX1_isHeld 1 rfl) wfl_X1_67 iX1 rfl (Q_0 hq) (Nat.le_of_ble_eq_true rfl) rfl ?_
  refine V_iload_n (pc := 4) X (th_da dtX1_isHeld 2 rfl) rfl ?_
  refine V_ishr (pc := 5) X (th_da dtX1_isHeld 3 rfl) ?_
  refine V_iconst (pc := 6) (v := 1) X (th_da dtX1_isHeld 4 rfl) (by decide) ?_
  refine V_iand (pc := 7) X (th_da dtX1_isHeld 5 rfl) ?_
  refine V_if_eq (pc := 8) (tgt := 15) X (th_da dtX1_isHeld 6 rfl) (by decide) (fun c1 => ?_) (fun c1 => ?_)
  · rw [if_pos c1] at hf
    refine V_iconst (pc := 15) (v := 0) X (th_da dtX1_isHeld 9 rfl) (by decide) ?_
    exact V_zretF (pc := 16) X (th_da dtX1_isHeld 10 rfl) (Or.inl rfl) hf
  · rw [if_neg c1] at hf
    refine V_iconst (pc := 11) (v := 1) X (th_da dtX1_isHeld 7 rfl) (by decide) ?_
    refine V_goto (pc := 12) (tgt := 16) X (th_da dtX1_isHeld 8 rfl) (by decide) ?_
    exact V_zretF (pc := 16) X (th_da dtX1_isHeld 10 rfl) (Or.inr rfl) hf
end
def fX1_reroute_c11 (q : Nat) : Nat → Int32 → Int32 → th_H → Option (Unit × th_H)
  | 0, _, _, _ => none
  | n + 1, y1, y3, h =>
    if (y3 < 10 : Prop) then
      th_bd (fX0_goesOver (q + 1) y1 y3 h) fun u2 h2 =>
      if (u2 = 0 : Prop) then
        th_bd (fX1_forgetAt q y1 y3 h2) fun _u4 h4 =>
        fX1_reroute_c11 q n y1 (y3 + 1) h4
      else
        fX1_reroute_c11 q n y1 (y3 + 1) h2
    else
      th_wr h (q + 13) 20 y1 0 fun h5 =>
      some ((), h5)
def fX1_reroute (q : Nat) (x1 : Int32) (x2 : Int32) (h : th_H) : Option (Unit × th_H) :=
  th_bd (fX0_setPath (q + 1) x1 x2 h) fun _u1 h1 =>
  fX1_reroute_c11 q 1000 x1 0 h1
def tbX1_reroute : List (Nat × Instr × Nat) := [(0, .aload_n 0, 1), (1, .getfield 12, 3), (4, .iload_n 1, 1), (5, .iload_n 2, 1), (6, .invokevirtual 90, 3), (9, .iconst 0, 1), (10, .istore_n 3, 1), (11, .iload_n 3, 1), (12, .bipush 10, 2), (14, .if_icmp .ge 27, 3), (17, .aload_n 0, 1), (18, .getfield 12, 3), (21, .iload_n 1, 1), (22, .iload_n 3, 1), (23, .invokevirtual 94, 3), (26, .ifCond .ne 9, 3), (29, .aload_n 0, 1), (30, .iload_n 1, 1), (31, .iload_n 3, 1), (32, .invokevirtual 98, 3), (35, .iinc 3 1, 3), (38, .goto (-27), 3), (41, .aload_n 0, 1), (42, .getfield 31, 3), (45, .iload_n 1, 1), (46, .iconst 0, 1), (47, .iastore, 1), (48, .return_, 1)]
theorem dtX1_reroute : th_dec cX1_reroute tbX1_reroute = true := by decide +kernel
section
variable {p0 : Program} {l : Launch} {e : Env} {s : State} {m : MethodId} {args : Array Value} {below : List Frame} {meth : Method} {c : Code} {D : va_G} {cI cZ : ClassId} {ad : Nat → Nat} {rr : Unit} {hh : th_H}
set_option maxHeartbeats 4000000 in
set_option maxRecDepth 100000 in
theorem tX1_reroute_c11 (X : th_X p0 s m args meth c D cI cZ ad LC 4 RX1 cX1_reroute none) (q : Nat) (hq : isQ q) : ∀ (n : Nat) (y1 : Int32) (y3 : Int32) (h : th_H), fX1_reroute_c11 q n y1 y3 h = some (rr, hh) → th_V p0 l e { frames := 2, cells := 0, slots := 0, locals := 46 } s m args below meth c D cI cZ ad LC 4 none hh 11 [.ref q, .int y1, .null, .int y3] [] h := by
  intro n
  induction n with
  | zero => intro y1 y3 h hf; cases hf
  | succ n ih =>
    intro y1 y3 h hf
    rw [fX1_reroute_c11] at hf
    refine V_iload_n (pc := 11) X (th_da dtX1_reroute 7 rfl) rfl ?_
    refine V_bipush (pc := 12) (v := 10) X (th_da dtX1_reroute 8 rfl) (by decide) ?_
    refine V_icmp_ge (pc := 14) (tgt := 41) X (th_da dtX1_reroute 9 rfl) (by decide) (fun c1 => ?_) (fun c1 => ?_)
    · rw [if_pos c1] at hf
      refine V_aload_n (pc := 17) X (th_da dtX1_reroute 10 rfl) rfl ?_
      refine V_getR (pc := 18) (j := 0) (t := (q + 1)) X (th_da dtX1_reroute 11 rfl) wfl_X1_12 iX1 rfl (Q_0 hq) (Nat.le_of_ble_eq_true rfl) rfl ?_
      refine V_iload_n (pc := 21) X (th_da dtX1_reroute 12 rfl) rfl ?_
      refine V_iload_n (pc := 22) X (th_da dtX1_reroute 13 rfl) rfl ?_
      obtain ⟨u2, h2, e2, hf⟩ := th_bd_some hf
      refine V_callVi (pc := 23) (q := (q + 1)) (As := [.int y1, .int y3]) X (th_da dtX1_reroute 14 rfl) (mX0_goesOver l (q + 1) (Q_p hq) _ _ _ _ _ e2) wcd_X0_goesOver wml_X1_94 wim_X0_goesOver wse_X0_goesOver win_X0_goesOver hd_X0_goesOver ⟨Nat.le_of_ble_eq_true rfl, Nat.le_of_ble_eq_true rfl⟩ (Nat.le_of_ble_eq_true rfl) rfl (P_0 (Q_p hq)) rfl ?_
      refine V_if_ne (pc := 26) (tgt := 35) X (th_da dtX1_reroute 15 rfl) (by decide) (fun c3 => ?_) (fun c3 => ?_)
      · rw [if_pos c3] at hf
        refine V_aload_n (pc := 29) X (th_da dtX1_reroute 16 rfl) rfl ?_
        refine V_iload_n (pc := 30) X (th_da dtX1_reroute 17 rfl) rfl ?_
        refine V_iload_n (pc := 31) X (th_da dtX1_reroute 18 rfl) rfl ?_
        obtain ⟨u4, h4, e4, hf⟩ := th_bd_some hf
        refine V_callVv (pc := 32) (q := q) (As := [.int y1, .int y3]) X (th_da dtX1_reroute 19 rfl) (mX1_forgetAt l q hq _ _ _ _ _ e4) wcd_X1_forgetAt wml_X1_98 wim_X1_forgetAt wse_X1_forgetAt win_X1_forgetAt hd_X1_forgetAt ⟨Nat.le_of_ble_eq_true rfl, Nat.le_of_ble_eq_true rfl⟩ (Nat.le_of_ble_eq_true rfl) rfl (Q_0 hq) rfl ?_
        refine V_iinc (pc := 35) (v := y3 + 1) (ls2 := [.ref q, .int y1, .null, .int (y3 + 1)]) X (th_da dtX1_reroute 20 rfl) rfl rfl (Nat.le_of_ble_eq_true rfl) rfl rfl ?_
        refine V_goto (pc := 38) (tgt := 11) X (th_da dtX1_reroute 21 rfl) (by decide) ?_
        exact ih _ _ _ hf
      · rw [if_neg c3] at hf
        refine V_iinc (pc := 35) (v := y3 + 1) (ls2 := [.ref q, .int y1, .null, .int (y3 + 1)]) X (th_da dtX1_reroute 20 rfl) rfl rfl (Nat.le_of_ble_eq_true rfl) rfl rfl ?_
        refine V_goto (pc := 38) (tgt := 11) X (th_da dtX1_reroute 21 rfl) (by decide) ?_
        exact ih _ _ _ hf
    · rw [if_neg c1] at hf
      refine V_aload_n (pc := 41) X (th_da dtX1_reroute 22 rfl) rfl ?_
      refine V_getR (pc := 42) (j := 5) (t := (q + 13)) X (th_da dtX1_reroute 23 rfl) wfl_X1_31 iX1 rfl (Q_0 hq) (Nat.le_of_ble_eq_true rfl) rfl ?_
      refine V_iload_n (pc := 45) X (th_da dtX1_reroute 24 rfl) rfl ?_
      refine V_iconst (pc := 46) (v := 0) X (th_da dtX1_reroute 25 rfl) (by decide) ?_
      obtain ⟨h5, e5, g5, hf⟩ := th_wr_some hf
      refine V_iast (pc := 47) X (th_da dtX1_reroute 26 rfl) (Q_13 hq) g5 e5 ?_
      exact V_vretF (pc := 48) X (th_da dtX1_reroute 27 rfl) hf
set_option maxHeartbeats 4000000 in
set_option maxRecDepth 100000 in
theorem mX1_reroute (l : Launch) (q : Nat) (hq : isQ q) (x1 : Int32) (x2 : Int32) (h : th_H) (rr : Unit) (hh : th_H) (hf : fX1_reroute q x1 x2 h = some (rr, hh)) : th_MI l LC yX1_reroute cX1_reroute 4 none 2 46 [.ref q, .int x1, .int x2] h none hh := by
  refine th_MI_of (ls := [.ref q, .int x1, .int x2, .null]) RX1 rfl rfl rfl (Nat.le_of_ble_eq_true rfl) ?_
  intro p0 e s m args below meth c D cI cZ ad X
  unfold fX1_reroute at hf
  refine V_aload_n (pc := 0) X (th_da dtX1_reroute 0 rfl) rfl ?_
  refine V_getR (pc := 1) (j := 0) (t := (q + 1)) X (th_da dtX1_reroute 1 rfl) wfl_X1_12 iX1 rfl (Q_0 hq) (Nat.le_of_ble_eq_true rfl) rfl ?_
  refine V_iload_n (pc := 4) X (th_da dtX1_reroute 2 rfl) rfl ?_
  refine V_iload_n (pc := 5) X (th_da dtX1_reroute 3 rfl) rfl ?_
  obtain ⟨u1, h1, e1, hf⟩ := th_bd_some hf
  refine V_callVv (pc := 6) (q := (q + 1)) (As := [.int x1, .int x2]) X (th_da dtX1_reroute 4 rfl) (mX0_setPath l (q + 1) (Q_p hq) _ _ _ _ _ e1) wcd_X0_setPath wml_X1_90 wim_X0_setPath wse_X0_setPath win_X0_setPath hd_X0_setPath ⟨Nat.le_of_ble_eq_true rfl, Nat.le_of_ble_eq_true rfl⟩ (Nat.le_of_ble_eq_true rfl) rfl (P_0 (Q_p hq)) rfl ?_
  refine V_iconst (pc := 9) (v := 0) X (th_da dtX1_reroute 5 rfl) (by decide) ?_
  refine V_istore_n (pc := 10) (ls2 := [.ref q, .int x1, .int x2, .int 0]) X (th_da dtX1_reroute 6 rfl) (Nat.le_of_ble_eq_true rfl) rfl rfl ?_
  refine V_mask [true, true, false, true] (ls2 := [.ref q, .int x1, .null, .int 0]) rfl ?_
  exact tX1_reroute_c11 X _ hq _ _ _ _ hf
end
def fX1_lowestFrom_c2 (q : Nat) : Nat → Int32 → Int32 → th_H → Option (Int32 × th_H)
  | 0, _, _, _ => none
  | n + 1, y1, y3, h =>
    if (y3 < 10 : Prop) then
      th_bd (fX0_goesOver (q + 1) y1 y3 h) fun u2 h2 =>
      if (u2 = 0 : Prop) then
        fX1_lowestFrom_c2 q n y1 (y3 + 1) h2
      else
        some (y3, h2)
    else
      some ((-1), h)
def fX1_lowestFrom (q : Nat) (x1 : Int32) (x2 : Int32) (h : th_H) : Option (Int32 × th_H) :=
  fX1_lowestFrom_c2 q 1000 x1 x2 h
def tbX1_lowestFrom : List (Nat × Instr × Nat) := [(0, .iload_n 2, 1), (1, .istore_n 3, 1), (2, .iload_n 3, 1), (3, .bipush 10, 2), (5, .if_icmp .ge 23, 3), (8, .aload_n 0, 1), (9, .getfield 12, 3), (12, .iload_n 1, 1), (13, .iload_n 3, 1), (14, .invokevirtual 94, 3), (17, .ifCond .eq 5, 3), (20, .iload_n 3, 1), (21, .ireturn, 1), (22, .iinc 3 1, 3), (25, .goto (-23), 3), (28, .iconst (-1), 1), (29, .ireturn, 1)]
theorem dtX1_lowestFrom : th_dec cX1_lowestFrom tbX1_lowestFrom = true := by decide +kernel
section
variable {p0 : Program} {l : Launch} {e : Env} {s : State} {m : MethodId} {args : Array Value} {below : List Frame} {meth : Method} {c : Code} {D : va_G} {cI cZ : ClassId} {ad : Nat → Nat} {rr : Int32} {hh : th_H}
set_option maxHeartbeats 4000000 in
set_option maxRecDepth 100000 in
theorem tX1_lowestFrom_c2 (X : th_X p0 s m args meth c D cI cZ ad LC 4 RX1 cX1_lowestFrom (some .int)) (q : Nat) (hq : isQ q) : ∀ (n : Nat) (y1 : Int32) (y3 : Int32) (h : th_H), fX1_lowestFrom_c2 q n y1 y3 h = some (rr, hh) → th_V p0 l e { frames := 1, cells := 0, slots := 0, locals := 22 } s m args below meth c D cI cZ ad LC 4 (some (.int rr)) hh 2 [.ref q, .int y1, .null, .int y3] [] h := by
  intro n
  induction n with
  | zero => intro y1 y3 h hf; cases hf
  | succ n ih =>
    intro y1 y3 h hf
    rw [fX1_lowestFrom_c2] at hf
    refine V_iload_n (pc := 2) X (th_da dtX1_lowestFrom 2 rfl) rfl ?_
    refine V_bipush (pc := 3) (v := 10) X (th_da dtX1_lowestFrom 3 rfl) (by decide) ?_
    refine V_icmp_ge (pc := 5) (tgt := 28) X (th_da dtX1_lowestFrom 4 rfl) (by decide) (fun c1 => ?_) (fun c1 => ?_)
    · rw [if_pos c1] at hf
      refine V_aload_n (pc := 8) X (th_da dtX1_lowestFrom 5 rfl) rfl ?_
      refine V_getR (pc := 9) (j := 0) (t := (q + 1)) X (th_da dtX1_lowestFrom 6 rfl) wfl_X1_12 iX1 rfl (Q_0 hq) (Nat.le_of_ble_eq_true rfl) rfl ?_
      refine V_iload_n (pc := 12) X (th_da dtX1_lowestFrom 7 rfl) rfl ?_
      refine V_iload_n (pc := 13) X (th_da dtX1_lowestFrom 8 rfl) rfl ?_
      obtain ⟨u2, h2, e2, hf⟩ := th_bd_some hf
      refine V_callVi (pc := 14) (q := (q + 1)) (As := [.int y1, .int y3]) X (th_da dtX1_lowestFrom 9 rfl) (mX0_goesOver l (q + 1) (Q_p hq) _ _ _ _ _ e2) wcd_X0_goesOver wml_X1_94 wim_X0_goesOver wse_X0_goesOver win_X0_goesOver hd_X0_goesOver ⟨Nat.le_of_ble_eq_true rfl, Nat.le_of_ble_eq_true rfl⟩ (Nat.le_of_ble_eq_true rfl) rfl (P_0 (Q_p hq)) rfl ?_
      refine V_if_eq (pc := 17) (tgt := 22) X (th_da dtX1_lowestFrom 10 rfl) (by decide) (fun c3 => ?_) (fun c3 => ?_)
      · rw [if_pos c3] at hf
        refine V_iinc (pc := 22) (v := y3 + 1) (ls2 := [.ref q, .int y1, .null, .int (y3 + 1)]) X (th_da dtX1_lowestFrom 13 rfl) rfl rfl (Nat.le_of_ble_eq_true rfl) rfl rfl ?_
        refine V_goto (pc := 25) (tgt := 2) X (th_da dtX1_lowestFrom 14 rfl) (by decide) ?_
        exact ih _ _ _ hf
      · rw [if_neg c3] at hf
        refine V_iload_n (pc := 20) X (th_da dtX1_lowestFrom 11 rfl) rfl ?_
        exact V_iretF (pc := 21) X (th_da dtX1_lowestFrom 12 rfl) hf
    · rw [if_neg c1] at hf
      refine V_iconst (pc := 28) (v := (-1)) X (th_da dtX1_lowestFrom 15 rfl) (by decide) ?_
      exact V_iretF (pc := 29) X (th_da dtX1_lowestFrom 16 rfl) hf
set_option maxHeartbeats 4000000 in
set_option maxRecDepth 100000 in
theorem mX1_lowestFrom (l : Launch) (q : Nat) (hq : isQ q) (x1 : Int32) (x2 : Int32) (h : th_H) (rr : Int32) (hh : th_H) (hf : fX1_lowestFrom q x1 x2 h = some (rr, hh)) : th_MI l LC yX1_lowestFrom cX1_lowestFrom 4 (some .int) 1 22 [.ref q, .int x1, .int x2] h (some (.int rr)) hh := by
  refine th_MI_of (ls := [.ref q, .int x1, .int x2, .null]) RX1 rfl rfl rfl (Nat.le_of_ble_eq_true rfl) ?_
  intro p0 e s m args below meth c D cI cZ ad X
  unfold fX1_lowestFrom at hf
  refine V_iload_n (pc := 0) X (th_da dtX1_lowestFrom 0 rfl) rfl ?_
  refine V_istore_n (pc := 1) (ls2 := [.ref q, .int x1, .int x2, .int x2]) X (th_da dtX1_lowestFrom 1 rfl) (Nat.le_of_ble_eq_true rfl) rfl rfl ?_
  refine V_mask [true, true, false, true] (ls2 := [.ref q, .int x1, .null, .int x2]) rfl ?_
  exact tX1_lowestFrom_c2 X _ hq _ _ _ _ hf
end
def fX1_tellAhead (q : Nat) (x1 : Int32) (x2 : Int32) (x3 : Int32) (h : th_H) : Option (Unit × th_H) :=
  th_rd h (q + 9) 200 ((x1 * 10) + x2) fun v1 =>
  if (v1 = x3 : Prop) then
    some ((), h)
  else
    th_wr h (q + 9) 200 ((x1 * 10) + x2) x3 fun h3 =>
    th_wr h3 (q + 16) 10 x2 (-1) fun h4 =>
    th_st (th_up h4 q 15 1) fun h5 =>
    some ((), h5)
def tbX1_tellAhead : List (Nat × Instr × Nat) := [(0, .aload_n 0, 1), (1, .getfield 18, 3), (4, .iload_n 1, 1), (5, .bipush 10, 2), (7, .imul, 1), (8, .iload_n 2, 1), (9, .iadd, 1), (10, .iaload, 1), (11, .iload_n 3, 1), (12, .if_icmp .eq 27, 3), (15, .aload_n 0, 1), (16, .getfield 18, 3), (19, .iload_n 1, 1), (20, .bipush 10, 2), (22, .imul, 1), (23, .iload_n 2, 1), (24, .iadd, 1), (25, .iload_n 3, 1), (26, .iastore, 1), (27, .aload_n 0, 1), (28, .getfield 40, 3), (31, .iload_n 2, 1), (32, .iconst (-1), 1), (33, .iastore, 1), (34, .aload_n 0, 1), (35, .iconst 1, 1), (36, .putfield 134, 3), (39, .return_, 1)]
theorem dtX1_tellAhead : th_dec cX1_tellAhead tbX1_tellAhead = true := by decide +kernel
section
variable {p0 : Program} {l : Launch} {e : Env} {s : State} {m : MethodId} {args : Array Value} {below : List Frame} {meth : Method} {c : Code} {D : va_G} {cI cZ : ClassId} {ad : Nat → Nat} {rr : Unit} {hh : th_H}
set_option maxHeartbeats 4000000 in
set_option maxRecDepth 100000 in
theorem mX1_tellAhead (l : Launch) (q : Nat) (hq : isQ q) (x1 : Int32) (x2 : Int32) (x3 : Int32) (h : th_H) (rr : Unit) (hh : th_H) (hf : fX1_tellAhead q x1 x2 x3 h = some (rr, hh)) : th_MI l LC yX1_tellAhead cX1_tellAhead 4 none 0 0 [.ref q, .int x1, .int x2, .int x3] h none hh := by
  refine th_MI_of (ls := [.ref q, .int x1, .int x2, .int x3]) RX1 rfl rfl rfl (Nat.le_of_ble_eq_true rfl) ?_
  intro p0 e s m args below meth c D cI cZ ad X
  unfold fX1_tellAhead at hf
  refine V_aload_n (pc := 0) X (th_da dtX1_tellAhead 0 rfl) rfl ?_
  refine V_getR (pc := 1) (j := 1) (t := (q + 9)) X (th_da dtX1_tellAhead 1 rfl) wfl_X1_18 iX1 rfl (Q_0 hq) (Nat.le_of_ble_eq_true rfl) rfl ?_
  refine V_iload_n (pc := 4) X (th_da dtX1_tellAhead 2 rfl) rfl ?_
  refine V_bipush (pc := 5) (v := 10) X (th_da dtX1_tellAhead 3 rfl) (by decide) ?_
  refine V_imul (pc := 7) X (th_da dtX1_tellAhead 4 rfl) ?_
  refine V_iload_n (pc := 8) X (th_da dtX1_tellAhead 5 rfl) rfl ?_
  refine V_iadd (pc := 9) X (th_da dtX1_tellAhead 6 rfl) ?_
  obtain ⟨v1, e1, g1, hf⟩ := th_rd_some hf
  refine V_iald (pc := 10) X (th_da dtX1_tellAhead 7 rfl) (Q_9 hq) g1 e1 ?_
  refine V_iload_n (pc := 11) X (th_da dtX1_tellAhead 8 rfl) rfl ?_
  refine V_icmp_eq (pc := 12) (tgt := 39) X (th_da dtX1_tellAhead 9 rfl) (by decide) (fun c2 => ?_) (fun c2 => ?_)
  · rw [if_pos c2] at hf
    exact V_vretF (pc := 39) X (th_da dtX1_tellAhead 27 rfl) hf
  · rw [if_neg c2] at hf
    refine V_aload_n (pc := 15) X (th_da dtX1_tellAhead 10 rfl) rfl ?_
    refine V_getR (pc := 16) (j := 1) (t := (q + 9)) X (th_da dtX1_tellAhead 11 rfl) wfl_X1_18 iX1 rfl (Q_0 hq) (Nat.le_of_ble_eq_true rfl) rfl ?_
    refine V_iload_n (pc := 19) X (th_da dtX1_tellAhead 12 rfl) rfl ?_
    refine V_bipush (pc := 20) (v := 10) X (th_da dtX1_tellAhead 13 rfl) (by decide) ?_
    refine V_imul (pc := 22) X (th_da dtX1_tellAhead 14 rfl) ?_
    refine V_iload_n (pc := 23) X (th_da dtX1_tellAhead 15 rfl) rfl ?_
    refine V_iadd (pc := 24) X (th_da dtX1_tellAhead 16 rfl) ?_
    refine V_iload_n (pc := 25) X (th_da dtX1_tellAhead 17 rfl) rfl ?_
    obtain ⟨h3, e3, g3, hf⟩ := th_wr_some hf
    refine V_iast (pc := 26) X (th_da dtX1_tellAhead 18 rfl) (Q_9 hq) g3 e3 ?_
    refine V_aload_n (pc := 27) X (th_da dtX1_tellAhead 19 rfl) rfl ?_
    refine V_getR (pc := 28) (j := 12) (t := (q + 16)) X (th_da dtX1_tellAhead 20 rfl) wfl_X1_40 iX1 rfl (Q_0 hq) (Nat.le_of_ble_eq_true rfl) rfl ?_
    refine V_iload_n (pc := 31) X (th_da dtX1_tellAhead 21 rfl) rfl ?_
    refine V_iconst (pc := 32) (v := (-1)) X (th_da dtX1_tellAhead 22 rfl) (by decide) ?_
    obtain ⟨h4, e4, g4, hf⟩ := th_wr_some hf
    refine V_iast (pc := 33) X (th_da dtX1_tellAhead 23 rfl) (Q_16 hq) g4 e4 ?_
    refine V_aload_n (pc := 34) X (th_da dtX1_tellAhead 24 rfl) rfl ?_
    refine V_iconst (pc := 35) (v := 1) X (th_da dtX1_tellAhead 25 rfl) (by decide) ?_
    obtain ⟨h5, e5, hf⟩ := th_st_some hf
    refine V_putI (pc := 36) (j := 15) (ty := .boolean) X (th_da dtX1_tellAhead 26 rfl) wfl_X1_134 iX1 rfl (Q_0 hq) (Nat.le_of_ble_eq_true rfl) rfl tyX1 tyX1_ok nmX1 rfl (tyX1_ok 15 (Nat.le_of_ble_eq_true rfl)) rfl rfl e5 ?_
    exact V_vretF (pc := 39) X (th_da dtX1_tellAhead 27 rfl) hf
end
def fX1_isLostAt (q : Nat) (x1 : Int32) (h : th_H) : Option (Int32 × th_H) :=
  th_rd h (q + 12) 10 x1 fun v1 =>
  if (v1 < 1 : Prop) then
    some (0, h)
  else
    th_rd h (q + 12) 10 x1 fun v3 =>
    th_wr h (q + 12) 10 x1 (v3 - 1) fun h4 =>
    th_st (th_up h4 q 11 ((h4.1 q 11) + 1)) fun h5 =>
    some (1, h5)
def tbX1_isLostAt : List (Nat × Instr × Nat) := [(0, .aload_n 0, 1), (1, .getfield 28, 3), (4, .iload_n 1, 1), (5, .iaload, 1), (6, .iconst 1, 1), (7, .if_icmp .ge 5, 3), (10, .iconst 0, 1), (11, .ireturn, 1), (12, .aload_n 0, 1), (13, .getfield 28, 3), (16, .iload_n 1, 1), (17, .dup2, 1), (18, .iaload, 1), (19, .iconst 1, 1), (20, .isub, 1), (21, .iastore, 1), (22, .aload_n 0, 1), (23, .dup, 1), (24, .getfield 76, 3), (27, .iconst 1, 1), (28, .iadd, 1), (29, .putfield 76, 3), (32, .iconst 1, 1), (33, .ireturn, 1)]
theorem dtX1_isLostAt : th_dec cX1_isLostAt tbX1_isLostAt = true := by decide +kernel
section
variable {p0 : Program} {l : Launch} {e : Env} {s : State} {m : MethodId} {args : Array Value} {below : List Frame} {meth : Method} {c : Code} {D : va_G} {cI cZ : ClassId} {ad : Nat → Nat} {rr : Int32} {hh : th_H}
set_option maxHeartbeats 4000000 in
set_option maxRecDepth 100000 in
theorem mX1_isLostAt (l : Launch) (q : Nat) (hq : isQ q) (x1 : Int32) (h : th_H) (rr : Int32) (hh : th_H) (hf : fX1_isLostAt q x1 h = some (rr, hh)) : th_MI l LC yX1_isLostAt cX1_isLostAt 2 (some .boolean) 0 0 [.ref q, .int x1] h (some (.int rr)) hh := by
  refine th_MI_of (ls := [.ref q, .int x1]) RX1 rfl rfl rfl (Nat.le_of_ble_eq_true rfl) ?_
  intro p0 e s m args below meth c D cI cZ ad X
  unfold fX1_isLostAt at hf
  refine V_aload_n (pc := 0) X (th_da dtX1_isLostAt 0 rfl) rfl ?_
  refine V_getR (pc := 1) (j := 4) (t := (q + 12)) X (th_da dtX1_isLostAt 1 rfl) wfl_X1_28 iX1 rfl (Q_0 hq) (Nat.le_of_ble_eq_true rfl) rfl ?_
  refine V_iload_n (pc := 4) X (th_da dtX1_isLostAt 2 rfl) rfl ?_
  obtain ⟨v1, e1, g1, hf⟩ := th_rd_some hf
  refine V_iald (pc := 5) X (th_da dtX1_isLostAt 3 rfl) (Q_12 hq) g1 e1 ?_
  refine V_iconst (pc := 6) (v := 1) X (th_da dtX1_isLostAt 4 rfl) (by decide) ?_
  refine V_icmp_ge (pc := 7) (tgt := 12) X (th_da dtX1_isLostAt 5 rfl) (by decide) (fun c2 => ?_) (fun c2 => ?_)
  · rw [if_pos c2] at hf
    refine V_iconst (pc := 10) (v := 0) X (th_da dtX1_isLostAt 6 rfl) (by decide) ?_
    exact V_zretF (pc := 11) X (th_da dtX1_isLostAt 7 rfl) (Or.inl rfl) hf
  · rw [if_neg c2] at hf
    refine V_aload_n (pc := 12) X (th_da dtX1_isLostAt 8 rfl) rfl ?_
    refine V_getR (pc := 13) (j := 4) (t := (q + 12)) X (th_da dtX1_isLostAt 9 rfl) wfl_X1_28 iX1 rfl (Q_0 hq) (Nat.le_of_ble_eq_true rfl) rfl ?_
    refine V_iload_n (pc := 16) X (th_da dtX1_isLostAt 10 rfl) rfl ?_
    refine V_dup2 (pc := 17) X (th_da dtX1_isLostAt 11 rfl) rfl rfl ?_
    obtain ⟨v3, e3, g3, hf⟩ := th_rd_some hf
    refine V_iald (pc := 18) X (th_da dtX1_isLostAt 12 rfl) (Q_12 hq) g3 e3 ?_
    refine V_iconst (pc := 19) (v := 1) X (th_da dtX1_isLostAt 13 rfl) (by decide) ?_
    refine V_isub (pc := 20) X (th_da dtX1_isLostAt 14 rfl) ?_
    obtain ⟨h4, e4, g4, hf⟩ := th_wr_some hf
    refine V_iast (pc := 21) X (th_da dtX1_isLostAt 15 rfl) (Q_12 hq) g4 e4 ?_
    refine V_aload_n (pc := 22) X (th_da dtX1_isLostAt 16 rfl) rfl ?_
    refine V_dup (pc := 23) X (th_da dtX1_isLostAt 17 rfl) rfl ?_
    refine V_getI (pc := 24) (j := 11) X (th_da dtX1_isLostAt 18 rfl) wfl_X1_76 iX1 rfl (Q_0 hq) (Nat.le_of_ble_eq_true rfl) rfl ?_
    refine V_iconst (pc := 27) (v := 1) X (th_da dtX1_isLostAt 19 rfl) (by decide) ?_
    refine V_iadd (pc := 28) X (th_da dtX1_isLostAt 20 rfl) ?_
    obtain ⟨h5, e5, hf⟩ := th_st_some hf
    refine V_putI (pc := 29) (j := 11) (ty := .int) X (th_da dtX1_isLostAt 21 rfl) wfl_X1_76 iX1 rfl (Q_0 hq) (Nat.le_of_ble_eq_true rfl) rfl tyX1 tyX1_ok nmX1 rfl (tyX1_ok 11 (Nat.le_of_ble_eq_true rfl)) rfl rfl e5 ?_
    refine V_iconst (pc := 32) (v := 1) X (th_da dtX1_isLostAt 22 rfl) (by decide) ?_
    exact V_zretF (pc := 33) X (th_da dtX1_isLostAt 23 rfl) (Or.inr rfl) hf
end
def fX1_elsewhere (q : Nat) (x1 : Int32) (x2 : Int32) (h : th_H) : Option (Int32 × th_H) :=
  th_rd h (q + 9) 200 ((x1 * 10) + x2) fun v1 =>
  th_rd h (q + 10) 200 ((x1 * 10) + x2) fun v2 =>
  some (th_mn v1 v2, h)
def tbX1_elsewhere : List (Nat × Instr × Nat) := [(0, .aload_n 0, 1), (1, .getfield 18, 3), (4, .iload_n 1, 1), (5, .bipush 10, 2), (7, .imul, 1), (8, .iload_n 2, 1), (9, .iadd, 1), (10, .iaload, 1), (11, .aload_n 0, 1), (12, .getfield 22, 3), (15, .iload_n 1, 1), (16, .bipush 10, 2), (18, .imul, 1), (19, .iload_n 2, 1), (20, .iadd, 1), (21, .iaload, 1), (22, .invokestatic 101, 3), (25, .ireturn, 1)]
theorem dtX1_elsewhere : th_dec cX1_elsewhere tbX1_elsewhere = true := by decide +kernel
section
variable {p0 : Program} {l : Launch} {e : Env} {s : State} {m : MethodId} {args : Array Value} {below : List Frame} {meth : Method} {c : Code} {D : va_G} {cI cZ : ClassId} {ad : Nat → Nat} {rr : Int32} {hh : th_H}
set_option maxHeartbeats 4000000 in
set_option maxRecDepth 100000 in
theorem mX1_elsewhere (l : Launch) (q : Nat) (hq : isQ q) (x1 : Int32) (x2 : Int32) (h : th_H) (rr : Int32) (hh : th_H) (hf : fX1_elsewhere q x1 x2 h = some (rr, hh)) : th_MI l LC yX1_elsewhere cX1_elsewhere 3 (some .int) 1 21 [.ref q, .int x1, .int x2] h (some (.int rr)) hh := by
  refine th_MI_of (ls := [.ref q, .int x1, .int x2]) RX1 rfl rfl rfl (Nat.le_of_ble_eq_true rfl) ?_
  intro p0 e s m args below meth c D cI cZ ad X
  unfold fX1_elsewhere at hf
  refine V_aload_n (pc := 0) X (th_da dtX1_elsewhere 0 rfl) rfl ?_
  refine V_getR (pc := 1) (j := 1) (t := (q + 9)) X (th_da dtX1_elsewhere 1 rfl) wfl_X1_18 iX1 rfl (Q_0 hq) (Nat.le_of_ble_eq_true rfl) rfl ?_
  refine V_iload_n (pc := 4) X (th_da dtX1_elsewhere 2 rfl) rfl ?_
  refine V_bipush (pc := 5) (v := 10) X (th_da dtX1_elsewhere 3 rfl) (by decide) ?_
  refine V_imul (pc := 7) X (th_da dtX1_elsewhere 4 rfl) ?_
  refine V_iload_n (pc := 8) X (th_da dtX1_elsewhere 5 rfl) rfl ?_
  refine V_iadd (pc := 9) X (th_da dtX1_elsewhere 6 rfl) ?_
  obtain ⟨v1, e1, g1, hf⟩ := th_rd_some hf
  refine V_iald (pc := 10) X (th_da dtX1_elsewhere 7 rfl) (Q_9 hq) g1 e1 ?_
  refine V_aload_n (pc := 11) X (th_da dtX1_elsewhere 8 rfl) rfl ?_
  refine V_getR (pc := 12) (j := 2) (t := (q + 10)) X (th_da dtX1_elsewhere 9 rfl) wfl_X1_22 iX1 rfl (Q_0 hq) (Nat.le_of_ble_eq_true rfl) rfl ?_
  refine V_iload_n (pc := 15) X (th_da dtX1_elsewhere 10 rfl) rfl ?_
  refine V_bipush (pc := 16) (v := 10) X (th_da dtX1_elsewhere 11 rfl) (by decide) ?_
  refine V_imul (pc := 18) X (th_da dtX1_elsewhere 12 rfl) ?_
  refine V_iload_n (pc := 19) X (th_da dtX1_elsewhere 13 rfl) rfl ?_
  refine V_iadd (pc := 20) X (th_da dtX1_elsewhere 14 rfl) ?_
  obtain ⟨v2, e2, g2, hf⟩ := th_rd_some hf
  refine V_iald (pc := 21) X (th_da dtX1_elsewhere 15 rfl) (Q_10 hq) g2 e2 ?_
  refine V_mmin (pc := 22) X (th_da dtX1_elsewhere 16 rfl) wml_X1_101 wst_J9_min_7cf53 win_J9_min_7cf53 wcd_J9_min_7cf53 (Nat.le_of_ble_eq_true rfl) (Nat.le_of_ble_eq_true rfl) ?_
  exact V_iretF (pc := 25) X (th_da dtX1_elsewhere 17 rfl) hf
end
def fX1_offerOf_c45 (q : Nat) : Nat → Int32 → Int32 → th_H → Option (Int32 × th_H)
  | 0, _, _, _ => none
  | n + 1, y1, y2, h =>
    if (y2 < 20 : Prop) then
      th_bd (fX0_goesOver (q + 1) y2 y1 h) fun u2 h2 =>
      if (u2 = 0 : Prop) then
        fX1_offerOf_c45 q n y1 (y2 + 1) h2
      else
        th_bd (fX1_elsewhere q y2 y1 h2) fun u4 h4 =>
        th_wr h4 (q + 17) 20 y2 u4 fun h5 =>
        fX1_offerOf_c45 q n y1 (y2 + 1) h5
    else
      th_bd (fX0_greatestLevel (q + 1) (q + 17) y1 h) fun u6 h6 =>
      th_wr h6 (q + 16) 10 y1 u6 fun h7 =>
      th_rd h7 (q + 16) 10 y1 fun v8 =>
      some (v8, h7)
def fX1_offerOf_c33 (q : Nat) (y1 : Int32) (h : th_H) : Option (Int32 × th_H) :=
  th_rd h (q + 16) 10 y1 fun v1 =>
  if (v1 = (-1) : Prop) then
    fX1_offerOf_c45 q 1000 y1 0 h
  else
    th_rd h (q + 16) 10 y1 fun v3 =>
    some (v3, h)
def fX1_offerOf (q : Nat) (x1 : Int32) (h : th_H) : Option (Int32 × th_H) :=
  if ((h.1 q 13) = (h.1 (q + 1) 8) : Prop) then
    fX1_offerOf_c33 q x1 h
  else
    th_bd (fJ7_fill_53178 (q + 16) 10 (-1) h) fun _u2 h2 =>
    th_st (th_up h2 q 13 (h2.1 (q + 1) 8)) fun h3 =>
    fX1_offerOf_c33 q x1 h3
def tbX1_offerOf : List (Nat × Instr × Nat) := [(0, .aload_n 0, 1), (1, .getfield 43, 3), (4, .aload_n 0, 1), (5, .getfield 12, 3), (8, .getfield 107, 3), (11, .if_icmp .eq 22, 3), (14, .aload_n 0, 1), (15, .getfield 40, 3), (18, .iconst (-1), 1), (19, .invokestatic 51, 3), (22, .aload_n 0, 1), (23, .aload_n 0, 1), (24, .getfield 12, 3), (27, .getfield 107, 3), (30, .putfield 43, 3), (33, .aload_n 0, 1), (34, .getfield 40, 3), (37, .iload_n 1, 1), (38, .iaload, 1), (39, .iconst (-1), 1), (40, .if_icmp .ne 59, 3), (43, .iconst 0, 1), (44, .istore_n 2, 1), (45, .iload_n 2, 1), (46, .bipush 20, 2), (48, .if_icmp .ge 33, 3), (51, .aload_n 0, 1), (52, .getfield 12, 3), (55, .iload_n 2, 1), (56, .iload_n 1, 1), (57, .invokevirtual 94, 3), (60, .ifCond .eq 15, 3), (63, .aload_n 0, 1), (64, .getfield 47, 3), (67, .iload_n 2, 1), (68, .aload_n 0, 1), (69, .iload_n 2, 1), (70, .iload_n 1, 1), (71, .invokevirtual 110, 3), (74, .iastore, 1), (75, .iinc 2 1, 3), (78, .goto (-33), 3), (81, .aload_n 0, 1), (82, .getfield 40, 3), (85, .iload_n 1, 1), (86, .aload_n 0, 1), (87, .getfield 12, 3), (90, .iload_n 1, 1), (91, .aload_n 0, 1), (92, .getfield 47, 3), (95, .invokevirtual 113, 3), (98, .iastore, 1), (99, .aload_n 0, 1), (100, .getfield 40, 3), (103, .iload_n 1, 1), (104, .iaload, 1), (105, .ireturn, 1)]
theorem dtX1_offerOf : th_dec cX1_offerOf tbX1_offerOf = true := by decide +kernel
section
variable {p0 : Program} {l : Launch} {e : Env} {s : State} {m : MethodId} {args : Array Value} {below : List Frame} {meth : Method} {c : Code} {D : va_G} {cI cZ : ClassId} {ad : Nat → Nat} {rr : Int32} {hh : th_H}
set_option maxHeartbeats 4000000 in
set_option maxRecDepth 100000 in
theorem tX1_offerOf_c45 (X : th_X p0 s m args meth c D cI cZ ad LC 3 RX1 cX1_offerOf (some .int)) (q : Nat) (hq : isQ q) : ∀ (n : Nat) (y1 : Int32) (y2 : Int32) (h : th_H), fX1_offerOf_c45 q n y1 y2 h = some (rr, hh) → th_V p0 l e { frames := 3, cells := 0, slots := 0, locals := 73 } s m args below meth c D cI cZ ad LC 3 (some (.int rr)) hh 45 [.ref q, .int y1, .int y2] [] h := by
  intro n
  induction n with
  | zero => intro y1 y2 h hf; cases hf
  | succ n ih =>
    intro y1 y2 h hf
    rw [fX1_offerOf_c45] at hf
    refine V_iload_n (pc := 45) X (th_da dtX1_offerOf 23 rfl) rfl ?_
    refine V_bipush (pc := 46) (v := 20) X (th_da dtX1_offerOf 24 rfl) (by decide) ?_
    refine V_icmp_ge (pc := 48) (tgt := 81) X (th_da dtX1_offerOf 25 rfl) (by decide) (fun c1 => ?_) (fun c1 => ?_)
    · rw [if_pos c1] at hf
      refine V_aload_n (pc := 51) X (th_da dtX1_offerOf 26 rfl) rfl ?_
      refine V_getR (pc := 52) (j := 0) (t := (q + 1)) X (th_da dtX1_offerOf 27 rfl) wfl_X1_12 iX1 rfl (Q_0 hq) (Nat.le_of_ble_eq_true rfl) rfl ?_
      refine V_iload_n (pc := 55) X (th_da dtX1_offerOf 28 rfl) rfl ?_
      refine V_iload_n (pc := 56) X (th_da dtX1_offerOf 29 rfl) rfl ?_
      obtain ⟨u2, h2, e2, hf⟩ := th_bd_some hf
      refine V_callVi (pc := 57) (q := (q + 1)) (As := [.int y2, .int y1]) X (th_da dtX1_offerOf 30 rfl) (mX0_goesOver l (q + 1) (Q_p hq) _ _ _ _ _ e2) wcd_X0_goesOver wml_X1_94 wim_X0_goesOver wse_X0_goesOver win_X0_goesOver hd_X0_goesOver ⟨Nat.le_of_ble_eq_true rfl, Nat.le_of_ble_eq_true rfl⟩ (Nat.le_of_ble_eq_true rfl) rfl (P_0 (Q_p hq)) rfl ?_
      refine V_if_eq (pc := 60) (tgt := 75) X (th_da dtX1_offerOf 31 rfl) (by decide) (fun c3 => ?_) (fun c3 => ?_)
      · rw [if_pos c3] at hf
        refine V_iinc (pc := 75) (v := y2 + 1) (ls2 := [.ref q, .int y1, .int (y2 + 1)]) X (th_da dtX1_offerOf 40 rfl) rfl rfl (Nat.le_of_ble_eq_true rfl) rfl rfl ?_
        refine V_goto (pc := 78) (tgt := 45) X (th_da dtX1_offerOf 41 rfl) (by decide) ?_
        exact ih _ _ _ hf
      · rw [if_neg c3] at hf
        refine V_aload_n (pc := 63) X (th_da dtX1_offerOf 32 rfl) rfl ?_
        refine V_getR (pc := 64) (j := 14) (t := (q + 17)) X (th_da dtX1_offerOf 33 rfl) wfl_X1_47 iX1 rfl (Q_0 hq) (Nat.le_of_ble_eq_true rfl) rfl ?_
        refine V_iload_n (pc := 67) X (th_da dtX1_offerOf 34 rfl) rfl ?_
        refine V_aload_n (pc := 68) X (th_da dtX1_offerOf 35 rfl) rfl ?_
        refine V_iload_n (pc := 69) X (th_da dtX1_offerOf 36 rfl) rfl ?_
        refine V_iload_n (pc := 70) X (th_da dtX1_offerOf 37 rfl) rfl ?_
        obtain ⟨u4, h4, e4, hf⟩ := th_bd_some hf
        refine V_callVi (pc := 71) (q := q) (As := [.int y2, .int y1]) X (th_da dtX1_offerOf 38 rfl) (mX1_elsewhere l q hq _ _ _ _ _ e4) wcd_X1_elsewhere wml_X1_110 wim_X1_elsewhere wse_X1_elsewhere win_X1_elsewhere hd_X1_elsewhere ⟨Nat.le_of_ble_eq_true rfl, Nat.le_of_ble_eq_true rfl⟩ (Nat.le_of_ble_eq_true rfl) rfl (Q_0 hq) rfl ?_
        obtain ⟨h5, e5, g5, hf⟩ := th_wr_some hf
        refine V_iast (pc := 74) X (th_da dtX1_offerOf 39 rfl) (Q_17 hq) g5 e5 ?_
        refine V_iinc (pc := 75) (v := y2 + 1) (ls2 := [.ref q, .int y1, .int (y2 + 1)]) X (th_da dtX1_offerOf 40 rfl) rfl rfl (Nat.le_of_ble_eq_true rfl) rfl rfl ?_
        refine V_goto (pc := 78) (tgt := 45) X (th_da dtX1_offerOf 41 rfl) (by decide) ?_
        exact ih _ _ _ hf
    · rw [if_neg c1] at hf
      refine V_aload_n (pc := 81) X (th_da dtX1_offerOf 42 rfl) rfl ?_
      refine V_getR (pc := 82) (j := 12) (t := (q + 16)) X (th_da dtX1_offerOf 43 rfl) wfl_X1_40 iX1 rfl (Q_0 hq) (Nat.le_of_ble_eq_true rfl) rfl ?_
      refine V_iload_n (pc := 85) X (th_da dtX1_offerOf 44 rfl) rfl ?_
      refine V_aload_n (pc := 86) X (th_da dtX1_offerOf 45 rfl) rfl ?_
      refine V_getR (pc := 87) (j := 0) (t := (q + 1)) X (th_da dtX1_offerOf 46 rfl) wfl_X1_12 iX1 rfl (Q_0 hq) (Nat.le_of_ble_eq_true rfl) rfl ?_
      refine V_iload_n (pc := 90) X (th_da dtX1_offerOf 47 rfl) rfl ?_
      refine V_aload_n (pc := 91) X (th_da dtX1_offerOf 48 rfl) rfl ?_
      refine V_getR (pc := 92) (j := 14) (t := (q + 17)) X (th_da dtX1_offerOf 49 rfl) wfl_X1_47 iX1 rfl (Q_0 hq) (Nat.le_of_ble_eq_true rfl) rfl ?_
      obtain ⟨u6, h6, e6, hf⟩ := th_bd_some hf
      refine V_callVi (pc := 95) (q := (q + 1)) (As := [.int y1, .ref (q + 17)]) X (th_da dtX1_offerOf 50 rfl) (mX0_greatestLevel l (q + 1) (q + 17) (Q_p hq) (Q_17 hq) _ _ _ _ e6) wcd_X0_greatestLevel wml_X1_113 wim_X0_greatestLevel wse_X0_greatestLevel win_X0_greatestLevel hd_X0_greatestLevel ⟨Nat.le_of_ble_eq_true rfl, Nat.le_of_ble_eq_true rfl⟩ (Nat.le_of_ble_eq_true rfl) rfl (P_0 (Q_p hq)) rfl ?_
      obtain ⟨h7, e7, g7, hf⟩ := th_wr_some hf
      refine V_iast (pc := 98) X (th_da dtX1_offerOf 51 rfl) (Q_16 hq) g7 e7 ?_
      refine V_aload_n (pc := 99) X (th_da dtX1_offerOf 52 rfl) rfl ?_
      refine V_getR (pc := 100) (j := 12) (t := (q + 16)) X (th_da dtX1_offerOf 53 rfl) wfl_X1_40 iX1 rfl (Q_0 hq) (Nat.le_of_ble_eq_true rfl) rfl ?_
      refine V_iload_n (pc := 103) X (th_da dtX1_offerOf 54 rfl) rfl ?_
      obtain ⟨v8, e8, g8, hf⟩ := th_rd_some hf
      refine V_iald (pc := 104) X (th_da dtX1_offerOf 55 rfl) (Q_16 hq) g8 e8 ?_
      exact V_iretF (pc := 105) X (th_da dtX1_offerOf 56 rfl) hf
set_option maxHeartbeats 4000000 in
set_option maxRecDepth 100000 in
theorem tX1_offerOf_c33 (X : th_X p0 s m args meth c D cI cZ ad LC 3 RX1 cX1_offerOf (some .int)) (q : Nat) (hq : isQ q) (y1 : Int32) (h : th_H) (hf : fX1_offerOf_c33 q y1 h = some (rr, hh)) : th_V p0 l e { frames := 3, cells := 0, slots := 0, locals := 73 } s m args below meth c D cI cZ ad LC 3 (some (.int rr)) hh 33 [.ref q, .int y1, .null] [] h := by
  unfold fX1_offerOf_c33 at hf
  refine V_aload_n (pc := 33) X (th_da dtX1_offerOf 15 rfl) rfl ?_
  refine V_getR (pc := 34) (j := 12) (t := (q + 16)) X (th_da dtX1_offerOf 16 rfl) wfl_X1_40 iX1 rfl (Q_0 hq) (Nat.le_of_ble_eq_true rfl) rfl ?_
  refine V_iload_n (pc := 37) X (th_da dtX1_offerOf 17 rfl) rfl ?_
  obtain ⟨v1, e1, g1, hf⟩ := th_rd_some hf
  refine V_iald (pc := 38) X (th_da dtX1_offerOf 18 rfl) (Q_16 hq) g1 e1 ?_
  refine V_iconst (pc := 39) (v := (-1)) X (th_da dtX1_offerOf 19 rfl) (by decide) ?_
  refine V_icmp_ne (pc := 40) (tgt := 99) X (th_da dtX1_offerOf 20 rfl) (by decide) (fun c2 => ?_) (fun c2 => ?_)
  · rw [if_pos c2] at hf
    refine V_iconst (pc := 43) (v := 0) X (th_da dtX1_offerOf 21 rfl) (by decide) ?_
    refine V_istore_n (pc := 44) (ls2 := [.ref q, .int y1, .int 0]) X (th_da dtX1_offerOf 22 rfl) (Nat.le_of_ble_eq_true rfl) rfl rfl ?_
    exact tX1_offerOf_c45 X _ hq _ _ _ _ hf
  · rw [if_neg c2] at hf
    refine V_aload_n (pc := 99) X (th_da dtX1_offerOf 52 rfl) rfl ?_
    refine V_getR (pc := 100) (j := 12) (t := (q + 16)) X (th_da dtX1_offerOf 53 rfl) wfl_X1_40 iX1 rfl (Q_0 hq) (Nat.le_of_ble_eq_true rfl) rfl ?_
    refine V_iload_n (pc := 103) X (th_da dtX1_offerOf 54 rfl) rfl ?_
    obtain ⟨v3, e3, g3, hf⟩ := th_rd_some hf
    refine V_iald (pc := 104) X (th_da dtX1_offerOf 55 rfl) (Q_16 hq) g3 e3 ?_
    exact V_iretF (pc := 105) X (th_da dtX1_offerOf 56 rfl) hf
set_option maxHeartbeats 4000000 in
set_option maxRecDepth 100000 in
theorem mX1_offerOf (l : Launch) (q : Nat) (hq : isQ q) (x1 : Int32) (h : th_H) (rr : Int32) (hh : th_H) (hf : fX1_offerOf q x1 h = some (rr, hh)) : th_MI l LC yX1_offerOf cX1_offerOf 3 (some .int) 3 73 [.ref q, .int x1] h (some (.int rr)) hh := by
  refine th_MI_of (ls := [.ref q, .int x1, .null]) RX1 rfl rfl rfl (Nat.le_of_ble_eq_true rfl) ?_
  intro p0 e s m args below meth c D cI cZ ad X
  unfold fX1_offerOf at hf
  refine V_aload_n (pc := 0) X (th_da dtX1_offerOf 0 rfl) rfl ?_
  refine V_getI (pc := 1) (j := 13) X (th_da dtX1_offerOf 1 rfl) wfl_X1_43 iX1 rfl (Q_0 hq) (Nat.le_of_ble_eq_true rfl) rfl ?_
  refine V_aload_n (pc := 4) X (th_da dtX1_offerOf 2 rfl) rfl ?_
  refine V_getR (pc := 5) (j := 0) (t := (q + 1)) X (th_da dtX1_offerOf 3 rfl) wfl_X1_12 iX1 rfl (Q_0 hq) (Nat.le_of_ble_eq_true rfl) rfl ?_
  refine V_getI (pc := 8) (j := 8) X (th_da dtX1_offerOf 4 rfl) wfl_X1_107 iX0 rfl (P_0 (Q_p hq)) (Nat.le_of_ble_eq_true rfl) rfl ?_
  refine V_icmp_eq (pc := 11) (tgt := 33) X (th_da dtX1_offerOf 5 rfl) (by decide) (fun c1 => ?_) (fun c1 => ?_)
  · rw [if_pos c1] at hf
    exact tX1_offerOf_c33 X _ hq _ _ hf
  · rw [if_neg c1] at hf
    refine V_aload_n (pc := 14) X (th_da dtX1_offerOf 6 rfl) rfl ?_
    refine V_getR (pc := 15) (j := 12) (t := (q + 16)) X (th_da dtX1_offerOf 7 rfl) wfl_X1_40 iX1 rfl (Q_0 hq) (Nat.le_of_ble_eq_true rfl) rfl ?_
    refine V_iconst (pc := 18) (v := (-1)) X (th_da dtX1_offerOf 8 rfl) (by decide) ?_
    obtain ⟨u2, h2, e2, hf⟩ := th_bd_some hf
    refine V_callSv (pc := 19) (As := [.ref (q + 16), .int (-1)]) X (th_da dtX1_offerOf 9 rfl) (mJ7_fill_53178 l (q + 16) 10 (Q_16 hq) _ _ _ _ e2) wcd_J7_fill_53178 wml_X1_51 wst_J7_fill_53178 win_J7_fill_53178 hd_J7_fill_53178 ⟨Nat.le_of_ble_eq_true rfl, Nat.le_of_ble_eq_true rfl⟩ (Nat.le_of_ble_eq_true rfl) rfl ?_
    refine V_aload_n (pc := 22) X (th_da dtX1_offerOf 10 rfl) rfl ?_
    refine V_aload_n (pc := 23) X (th_da dtX1_offerOf 11 rfl) rfl ?_
    refine V_getR (pc := 24) (j := 0) (t := (q + 1)) X (th_da dtX1_offerOf 12 rfl) wfl_X1_12 iX1 rfl (Q_0 hq) (Nat.le_of_ble_eq_true rfl) rfl ?_
    refine V_getI (pc := 27) (j := 8) X (th_da dtX1_offerOf 13 rfl) wfl_X1_107 iX0 rfl (P_0 (Q_p hq)) (Nat.le_of_ble_eq_true rfl) rfl ?_
    obtain ⟨h3, e3, hf⟩ := th_st_some hf
    refine V_putI (pc := 30) (j := 13) (ty := .int) X (th_da dtX1_offerOf 14 rfl) wfl_X1_43 iX1 rfl (Q_0 hq) (Nat.le_of_ble_eq_true rfl) rfl tyX1 tyX1_ok nmX1 rfl (tyX1_ok 13 (Nat.le_of_ble_eq_true rfl)) rfl rfl e3 ?_
    exact tX1_offerOf_c33 X _ hq _ _ hf
end
def fX1_tell (q : Nat) (x1 : Int32) (x2 : Int32) (h : th_H) : Option (Unit × th_H) :=
  th_rd h (q + 11) 20 x1 fun v1 =>
  if (v1 = x2 : Prop) then
    some ((), h)
  else
    th_wr h (q + 11) 20 x1 x2 fun h3 =>
    th_st (th_up h3 q 15 1) fun h4 =>
    some ((), h4)
def tbX1_tell : List (Nat × Instr × Nat) := [(0, .aload_n 0, 1), (1, .getfield 25, 3), (4, .iload_n 1, 1), (5, .iaload, 1), (6, .iload_n 2, 1), (7, .if_icmp .eq 15, 3), (10, .aload_n 0, 1), (11, .getfield 25, 3), (14, .iload_n 1, 1), (15, .iload_n 2, 1), (16, .iastore, 1), (17, .aload_n 0, 1), (18, .iconst 1, 1), (19, .putfield 134, 3), (22, .return_, 1)]
theorem dtX1_tell : th_dec cX1_tell tbX1_tell = true := by decide +kernel
section
variable {p0 : Program} {l : Launch} {e : Env} {s : State} {m : MethodId} {args : Array Value} {below : List Frame} {meth : Method} {c : Code} {D : va_G} {cI cZ : ClassId} {ad : Nat → Nat} {rr : Unit} {hh : th_H}
set_option maxHeartbeats 4000000 in
set_option maxRecDepth 100000 in
theorem mX1_tell (l : Launch) (q : Nat) (hq : isQ q) (x1 : Int32) (x2 : Int32) (h : th_H) (rr : Unit) (hh : th_H) (hf : fX1_tell q x1 x2 h = some (rr, hh)) : th_MI l LC yX1_tell cX1_tell 3 none 0 0 [.ref q, .int x1, .int x2] h none hh := by
  refine th_MI_of (ls := [.ref q, .int x1, .int x2]) RX1 rfl rfl rfl (Nat.le_of_ble_eq_true rfl) ?_
  intro p0 e s m args below meth c D cI cZ ad X
  unfold fX1_tell at hf
  refine V_aload_n (pc := 0) X (th_da dtX1_tell 0 rfl) rfl ?_
  refine V_getR (pc := 1) (j := 3) (t := (q + 11)) X (th_da dtX1_tell 1 rfl) wfl_X1_25 iX1 rfl (Q_0 hq) (Nat.le_of_ble_eq_true rfl) rfl ?_
  refine V_iload_n (pc := 4) X (th_da dtX1_tell 2 rfl) rfl ?_
  obtain ⟨v1, e1, g1, hf⟩ := th_rd_some hf
  refine V_iald (pc := 5) X (th_da dtX1_tell 3 rfl) (Q_11 hq) g1 e1 ?_
  refine V_iload_n (pc := 6) X (th_da dtX1_tell 4 rfl) rfl ?_
  refine V_icmp_eq (pc := 7) (tgt := 22) X (th_da dtX1_tell 5 rfl) (by decide) (fun c2 => ?_) (fun c2 => ?_)
  · rw [if_pos c2] at hf
    exact V_vretF (pc := 22) X (th_da dtX1_tell 14 rfl) hf
  · rw [if_neg c2] at hf
    refine V_aload_n (pc := 10) X (th_da dtX1_tell 6 rfl) rfl ?_
    refine V_getR (pc := 11) (j := 3) (t := (q + 11)) X (th_da dtX1_tell 7 rfl) wfl_X1_25 iX1 rfl (Q_0 hq) (Nat.le_of_ble_eq_true rfl) rfl ?_
    refine V_iload_n (pc := 14) X (th_da dtX1_tell 8 rfl) rfl ?_
    refine V_iload_n (pc := 15) X (th_da dtX1_tell 9 rfl) rfl ?_
    obtain ⟨h3, e3, g3, hf⟩ := th_wr_some hf
    refine V_iast (pc := 16) X (th_da dtX1_tell 10 rfl) (Q_11 hq) g3 e3 ?_
    refine V_aload_n (pc := 17) X (th_da dtX1_tell 11 rfl) rfl ?_
    refine V_iconst (pc := 18) (v := 1) X (th_da dtX1_tell 12 rfl) (by decide) ?_
    obtain ⟨h4, e4, hf⟩ := th_st_some hf
    refine V_putI (pc := 19) (j := 15) (ty := .boolean) X (th_da dtX1_tell 13 rfl) wfl_X1_134 iX1 rfl (Q_0 hq) (Nat.le_of_ble_eq_true rfl) rfl tyX1 tyX1_ok nmX1 rfl (tyX1_ok 15 (Nat.le_of_ble_eq_true rfl)) rfl rfl e4 ?_
    exact V_vretF (pc := 22) X (th_da dtX1_tell 14 rfl) hf
end
def fX1_arriveForth (q : Nat) (x1 : Int32) (x2 : Int32) (h : th_H) : Option (Int32 × th_H) :=
  th_rd h (q + 15) 20 x1 fun v1 =>
  th_bd (fX1_tellAhead q x1 x2 v1 h) fun _u2 h2 =>
  th_bd (fX1_isLostAt q x2 h2) fun u3 h3 =>
  if (u3 = 0 : Prop) then
    th_rd h3 (q + 15) 20 x1 fun v5 =>
    th_bd (fX1_offerOf q x2 h3) fun u6 h6 =>
    th_wr h6 (q + 15) 20 x1 (th_mn v5 u6) fun h7 =>
    th_bd (fX1_lowestFrom q x1 (x2 + 1) h7) fun u8 h8 =>
    th_wr h8 (q + 14) 20 x1 u8 fun h9 =>
    th_rd h9 (q + 14) 20 x1 fun v10 =>
    if (v10 = (-1) : Prop) then
      th_rd h9 (q + 15) 20 x1 fun v12 =>
      th_bd (fX1_tell q x1 v12 h9) fun _u13 h13 =>
      th_wr h13 (q + 13) 20 x1 2 fun h14 =>
      th_wr h14 (q + 14) 20 x1 x2 fun h15 =>
      th_wr h15 (q + 15) 20 x1 1000000 fun h16 =>
      some (x2, h16)
    else
      some (x2, h9)
  else
    th_wr h3 (q + 13) 20 x1 0 fun h17 =>
    some ((50 : Int32) + x2, h17)
def tbX1_arriveForth : List (Nat × Instr × Nat) := [(0, .aload_n 0, 1), (1, .iload_n 1, 1), (2, .iload_n 2, 1), (3, .aload_n 0, 1), (4, .getfield 37, 3), (7, .iload_n 1, 1), (8, .iaload, 1), (9, .invokevirtual 141, 3), (12, .aload_n 0, 1), (13, .iload_n 2, 1), (14, .invokevirtual 145, 3), (17, .ifCond .eq 15, 3), (20, .aload_n 0, 1), (21, .getfield 31, 3), (24, .iload_n 1, 1), (25, .iconst 0, 1), (26, .iastore, 1), (27, .bipush 50, 2), (29, .iload_n 2, 1), (30, .iadd, 1), (31, .ireturn, 1), (32, .aload_n 0, 1), (33, .getfield 37, 3), (36, .iload_n 1, 1), (37, .aload_n 0, 1), (38, .getfield 37, 3), (41, .iload_n 1, 1), (42, .iaload, 1), (43, .aload_n 0, 1), (44, .iload_n 2, 1), (45, .invokevirtual 117, 3), (48, .invokestatic 101, 3), (51, .iastore, 1), (52, .aload_n 0, 1), (53, .getfield 34, 3), (56, .iload_n 1, 1), (57, .aload_n 0, 1), (58, .iload_n 1, 1), (59, .iload_n 2, 1), (60, .iconst 1, 1), (61, .iadd, 1), (62, .invokevirtual 160, 3), (65, .iastore, 1), (66, .aload_n 0, 1), (67, .getfield 34, 3), (70, .iload_n 1, 1), (71, .iaload, 1), (72, .iconst (-1), 1), (73, .if_icmp .ne 36, 3), (76, .aload_n 0, 1), (77, .iload_n 1, 1), (78, .aload_n 0, 1), (79, .getfield 37, 3), (82, .iload_n 1, 1), (83, .iaload, 1), (84, .invokevirtual 148, 3), (87, .aload_n 0, 1), (88, .getfield 31, 3), (91, .iload_n 1, 1), (92, .iconst 2, 1), (93, .iastore, 1), (94, .aload_n 0, 1), (95, .getfield 34, 3), (98, .iload_n 1, 1), (99, .iload_n 2, 1), (100, .iastore, 1), (101, .aload_n 0, 1), (102, .getfield 37, 3), (105, .iload_n 1, 1), (106, .ldc 50, 2), (108, .iastore, 1), (109, .iload_n 2, 1), (110, .ireturn, 1)]
theorem dtX1_arriveForth : th_dec cX1_arriveForth tbX1_arriveForth = true := by decide +kernel
section
variable {p0 : Program} {l : Launch} {e : Env} {s : State} {m : MethodId} {args : Array Value} {below : List Frame} {meth : Method} {c : Code} {D : va_G} {cI cZ : ClassId} {ad : Nat → Nat} {rr : Int32} {hh : th_H}
set_option maxHeartbeats 4000000 in
set_option maxRecDepth 100000 in
theorem mX1_arriveForth (l : Launch) (q : Nat) (hq : isQ q) (x1 : Int32) (x2 : Int32) (h : th_H) (rr : Int32) (hh : th_H) (hf : fX1_arriveForth q x1 x2 h = some (rr, hh)) : th_MI l LC yX1_arriveForth cX1_arriveForth 3 (some .int) 4 95 [.ref q, .int x1, .int x2] h (some (.int rr)) hh := by
  refine th_MI_of (ls := [.ref q, .int x1, .int x2]) RX1 rfl rfl rfl (Nat.le_of_ble_eq_true rfl) ?_
  intro p0 e s m args below meth c D cI cZ ad X
  unfold fX1_arriveForth at hf
  refine V_aload_n (pc := 0) X (th_da dtX1_arriveForth 0 rfl) rfl ?_
  refine V_iload_n (pc := 1) X (th_da dtX1_arriveForth 1 rfl) rfl ?_
  refine V_iload_n (pc := 2) X (th_da dtX1_arriveForth 2 rfl) rfl ?_
  refine V_aload_n (pc := 3) X (th_da dtX1_arriveForth 3 rfl) rfl ?_
  refine V_getR (pc := 4) (j := 7) (t := (q + 15)) X (th_da dtX1_arriveForth 4 rfl) wfl_X1_37 iX1 rfl (Q_0 hq) (Nat.le_of_ble_eq_true rfl) rfl ?_
  refine V_iload_n (pc := 7) X (th_da dtX1_arriveForth 5 rfl) rfl ?_
  obtain ⟨v1, e1, g1, hf⟩ := th_rd_some hf
  refine V_iald (pc := 8) X (th_da dtX1_arriveForth 6 rfl) (Q_15 hq) g1 e1 ?_
  obtain ⟨u2, h2, e2, hf⟩ := th_bd_some hf
  refine V_callVv (pc := 9) (q := q) (As := [.int x1, .int x2, .int v1]) X (th_da dtX1_arriveForth 7 rfl) (mX1_tellAhead l q hq _ _ _ _ _ _ e2) wcd_X1_tellAhead wml_X1_141 wim_X1_tellAhead wse_X1_tellAhead win_X1_tellAhead hd_X1_tellAhead ⟨Nat.le_of_ble_eq_true rfl, Nat.le_of_ble_eq_true rfl⟩ (Nat.le_of_ble_eq_true rfl) rfl (Q_0 hq) rfl ?_
  refine V_aload_n (pc := 12) X (th_da dtX1_arriveForth 8 rfl) rfl ?_
  refine V_iload_n (pc := 13) X (th_da dtX1_arriveForth 9 rfl) rfl ?_
  obtain ⟨u3, h3, e3, hf⟩ := th_bd_some hf
  refine V_callVi (pc := 14) (q := q) (As := [.int x2]) X (th_da dtX1_arriveForth 10 rfl) (mX1_isLostAt l q hq _ _ _ _ e3) wcd_X1_isLostAt wml_X1_145 wim_X1_isLostAt wse_X1_isLostAt win_X1_isLostAt hd_X1_isLostAt ⟨Nat.le_of_ble_eq_true rfl, Nat.le_of_ble_eq_true rfl⟩ (Nat.le_of_ble_eq_true rfl) rfl (Q_0 hq) rfl ?_
  refine V_if_eq (pc := 17) (tgt := 32) X (th_da dtX1_arriveForth 11 rfl) (by decide) (fun c4 => ?_) (fun c4 => ?_)
  · rw [if_pos c4] at hf
    refine V_aload_n (pc := 32) X (th_da dtX1_arriveForth 21 rfl) rfl ?_
    refine V_getR (pc := 33) (j := 7) (t := (q + 15)) X (th_da dtX1_arriveForth 22 rfl) wfl_X1_37 iX1 rfl (Q_0 hq) (Nat.le_of_ble_eq_true rfl) rfl ?_
    refine V_iload_n (pc := 36) X (th_da dtX1_arriveForth 23 rfl) rfl ?_
    refine V_aload_n (pc := 37) X (th_da dtX1_arriveForth 24 rfl) rfl ?_
    refine V_getR (pc := 38) (j := 7) (t := (q + 15)) X (th_da dtX1_arriveForth 25 rfl) wfl_X1_37 iX1 rfl (Q_0 hq) (Nat.le_of_ble_eq_true rfl) rfl ?_
    refine V_iload_n (pc := 41) X (th_da dtX1_arriveForth 26 rfl) rfl ?_
    obtain ⟨v5, e5, g5, hf⟩ := th_rd_some hf
    refine V_iald (pc := 42) X (th_da dtX1_arriveForth 27 rfl) (Q_15 hq) g5 e5 ?_
    refine V_aload_n (pc := 43) X (th_da dtX1_arriveForth 28 rfl) rfl ?_
    refine V_iload_n (pc := 44) X (th_da dtX1_arriveForth 29 rfl) rfl ?_
    obtain ⟨u6, h6, e6, hf⟩ := th_bd_some hf
    refine V_callVi (pc := 45) (q := q) (As := [.int x2]) X (th_da dtX1_arriveForth 30 rfl) (mX1_offerOf l q hq _ _ _ _ e6) wcd_X1_offerOf wml_X1_117 wim_X1_offerOf wse_X1_offerOf win_X1_offerOf hd_X1_offerOf ⟨Nat.le_of_ble_eq_true rfl, Nat.le_of_ble_eq_true rfl⟩ (Nat.le_of_ble_eq_true rfl) rfl (Q_0 hq) rfl ?_
    refine V_mmin (pc := 48) X (th_da dtX1_arriveForth 31 rfl) wml_X1_101 wst_J9_min_7cf53 win_J9_min_7cf53 wcd_J9_min_7cf53 (Nat.le_of_ble_eq_true rfl) (Nat.le_of_ble_eq_true rfl) ?_
    obtain ⟨h7, e7, g7, hf⟩ := th_wr_some hf
    refine V_iast (pc := 51) X (th_da dtX1_arriveForth 32 rfl) (Q_15 hq) g7 e7 ?_
    refine V_aload_n (pc := 52) X (th_da dtX1_arriveForth 33 rfl) rfl ?_
    refine V_getR (pc := 53) (j := 6) (t := (q + 14)) X (th_da dtX1_arriveForth 34 rfl) wfl_X1_34 iX1 rfl (Q_0 hq) (Nat.le_of_ble_eq_true rfl) rfl ?_
    refine V_iload_n (pc := 56) X (th_da dtX1_arriveForth 35 rfl) rfl ?_
    refine V_aload_n (pc := 57) X (th_da dtX1_arriveForth 36 rfl) rfl ?_
    refine V_iload_n (pc := 58) X (th_da dtX1_arriveForth 37 rfl) rfl ?_
    refine V_iload_n (pc := 59) X (th_da dtX1_arriveForth 38 rfl) rfl ?_
    refine V_iconst (pc := 60) (v := 1) X (th_da dtX1_arriveForth 39 rfl) (by decide) ?_
    refine V_iadd (pc := 61) X (th_da dtX1_arriveForth 40 rfl) ?_
    obtain ⟨u8, h8, e8, hf⟩ := th_bd_some hf
    refine V_callVi (pc := 62) (q := q) (As := [.int x1, .int (x2 + 1)]) X (th_da dtX1_arriveForth 41 rfl) (mX1_lowestFrom l q hq _ _ _ _ _ e8) wcd_X1_lowestFrom wml_X1_160 wim_X1_lowestFrom wse_X1_lowestFrom win_X1_lowestFrom hd_X1_lowestFrom ⟨Nat.le_of_ble_eq_true rfl, Nat.le_of_ble_eq_true rfl⟩ (Nat.le_of_ble_eq_true rfl) rfl (Q_0 hq) rfl ?_
    obtain ⟨h9, e9, g9, hf⟩ := th_wr_some hf
    refine V_iast (pc := 65) X (th_da dtX1_arriveForth 42 rfl) (Q_14 hq) g9 e9 ?_
    refine V_aload_n (pc := 66) X (th_da dtX1_arriveForth 43 rfl) rfl ?_
    refine V_getR (pc := 67) (j := 6) (t := (q + 14)) X (th_da dtX1_arriveForth 44 rfl) wfl_X1_34 iX1 rfl (Q_0 hq) (Nat.le_of_ble_eq_true rfl) rfl ?_
    refine V_iload_n (pc := 70) X (th_da dtX1_arriveForth 45 rfl) rfl ?_
    obtain ⟨v10, e10, g10, hf⟩ := th_rd_some hf
    refine V_iald (pc := 71) X (th_da dtX1_arriveForth 46 rfl) (Q_14 hq) g10 e10 ?_
    refine V_iconst (pc := 72) (v := (-1)) X (th_da dtX1_arriveForth 47 rfl) (by decide) ?_
    refine V_icmp_ne (pc := 73) (tgt := 109) X (th_da dtX1_arriveForth 48 rfl) (by decide) (fun c11 => ?_) (fun c11 => ?_)
    · rw [if_pos c11] at hf
      refine V_aload_n (pc := 76) X (th_da dtX1_arriveForth 49 rfl) rfl ?_
      refine V_iload_n (pc := 77) X (th_da dtX1_arriveForth 50 rfl) rfl ?_
      refine V_aload_n (pc := 78) X (th_da dtX1_arriveForth 51 rfl) rfl ?_
      refine V_getR (pc := 79) (j := 7) (t := (q + 15)) X (th_da dtX1_arriveForth 52 rfl) wfl_X1_37 iX1 rfl (Q_0 hq) (Nat.le_of_ble_eq_true rfl) rfl ?_
      refine V_iload_n (pc := 82) X (th_da dtX1_arriveForth 53 rfl) rfl ?_
      obtain ⟨v12, e12, g12, hf⟩ := th_rd_some hf
      refine V_iald (pc := 83) X (th_da dtX1_arriveForth 54 rfl) (Q_15 hq) g12 e12 ?_
      obtain ⟨u13, h13, e13, hf⟩ := th_bd_some hf
      refine V_callVv (pc := 84) (q := q) (As := [.int x1, .int v12]) X (th_da dtX1_arriveForth 55 rfl) (mX1_tell l q hq _ _ _ _ _ e13) wcd_X1_tell wml_X1_148 wim_X1_tell wse_X1_tell win_X1_tell hd_X1_tell ⟨Nat.le_of_ble_eq_true rfl, Nat.le_of_ble_eq_true rfl⟩ (Nat.le_of_ble_eq_true rfl) rfl (Q_0 hq) rfl ?_
      refine V_aload_n (pc := 87) X (th_da dtX1_arriveForth 56 rfl) rfl ?_
      refine V_getR (pc := 88) (j := 5) (t := (q + 13)) X (th_da dtX1_arriveForth 57 rfl) wfl_X1_31 iX1 rfl (Q_0 hq) (Nat.le_of_ble_eq_true rfl) rfl ?_
      refine V_iload_n (pc := 91) X (th_da dtX1_arriveForth 58 rfl) rfl ?_
      refine V_iconst (pc := 92) (v := 2) X (th_da dtX1_arriveForth 59 rfl) (by decide) ?_
      obtain ⟨h14, e14, g14, hf⟩ := th_wr_some hf
      refine V_iast (pc := 93) X (th_da dtX1_arriveForth 60 rfl) (Q_13 hq) g14 e14 ?_
      refine V_aload_n (pc := 94) X (th_da dtX1_arriveForth 61 rfl) rfl ?_
      refine V_getR (pc := 95) (j := 6) (t := (q + 14)) X (th_da dtX1_arriveForth 62 rfl) wfl_X1_34 iX1 rfl (Q_0 hq) (Nat.le_of_ble_eq_true rfl) rfl ?_
      refine V_iload_n (pc := 98) X (th_da dtX1_arriveForth 63 rfl) rfl ?_
      refine V_iload_n (pc := 99) X (th_da dtX1_arriveForth 64 rfl) rfl ?_
      obtain ⟨h15, e15, g15, hf⟩ := th_wr_some hf
      refine V_iast (pc := 100) X (th_da dtX1_arriveForth 65 rfl) (Q_14 hq) g15 e15 ?_
      refine V_aload_n (pc := 101) X (th_da dtX1_arriveForth 66 rfl) rfl ?_
      refine V_getR (pc := 102) (j := 7) (t := (q + 15)) X (th_da dtX1_arriveForth 67 rfl) wfl_X1_37 iX1 rfl (Q_0 hq) (Nat.le_of_ble_eq_true rfl) rfl ?_
      refine V_iload_n (pc := 105) X (th_da dtX1_arriveForth 68 rfl) rfl ?_
      refine V_ldc (pc := 106) (v := 1000000) X (th_da dtX1_arriveForth 69 rfl) wco_X1_50 ?_
      obtain ⟨h16, e16, g16, hf⟩ := th_wr_some hf
      refine V_iast (pc := 108) X (th_da dtX1_arriveForth 70 rfl) (Q_15 hq) g16 e16 ?_
      refine V_iload_n (pc := 109) X (th_da dtX1_arriveForth 71 rfl) rfl ?_
      exact V_iretF (pc := 110) X (th_da dtX1_arriveForth 72 rfl) hf
    · rw [if_neg c11] at hf
      refine V_iload_n (pc := 109) X (th_da dtX1_arriveForth 71 rfl) rfl ?_
      exact V_iretF (pc := 110) X (th_da dtX1_arriveForth 72 rfl) hf
  · rw [if_neg c4] at hf
    refine V_aload_n (pc := 20) X (th_da dtX1_arriveForth 12 rfl) rfl ?_
    refine V_getR (pc := 21) (j := 5) (t := (q + 13)) X (th_da dtX1_arriveForth 13 rfl) wfl_X1_31 iX1 rfl (Q_0 hq) (Nat.le_of_ble_eq_true rfl) rfl ?_
    refine V_iload_n (pc := 24) X (th_da dtX1_arriveForth 14 rfl) rfl ?_
    refine V_iconst (pc := 25) (v := 0) X (th_da dtX1_arriveForth 15 rfl) (by decide) ?_
    obtain ⟨h17, e17, g17, hf⟩ := th_wr_some hf
    refine V_iast (pc := 26) X (th_da dtX1_arriveForth 16 rfl) (Q_13 hq) g17 e17 ?_
    refine V_bipush (pc := 27) (v := 50) X (th_da dtX1_arriveForth 17 rfl) (by decide) ?_
    refine V_iload_n (pc := 29) X (th_da dtX1_arriveForth 18 rfl) rfl ?_
    refine V_iadd (pc := 30) X (th_da dtX1_arriveForth 19 rfl) ?_
    exact V_iretF (pc := 31) X (th_da dtX1_arriveForth 20 rfl) hf
end
def fX1_tellBehind (q : Nat) (x1 : Int32) (x2 : Int32) (x3 : Int32) (h : th_H) : Option (Unit × th_H) :=
  th_rd h (q + 10) 200 ((x1 * 10) + x2) fun v1 =>
  if (v1 = x3 : Prop) then
    some ((), h)
  else
    th_wr h (q + 10) 200 ((x1 * 10) + x2) x3 fun h3 =>
    th_wr h3 (q + 16) 10 x2 (-1) fun h4 =>
    th_st (th_up h4 q 15 1) fun h5 =>
    some ((), h5)
def tbX1_tellBehind : List (Nat × Instr × Nat) := [(0, .aload_n 0, 1), (1, .getfield 22, 3), (4, .iload_n 1, 1), (5, .bipush 10, 2), (7, .imul, 1), (8, .iload_n 2, 1), (9, .iadd, 1), (10, .iaload, 1), (11, .iload_n 3, 1), (12, .if_icmp .eq 27, 3), (15, .aload_n 0, 1), (16, .getfield 22, 3), (19, .iload_n 1, 1), (20, .bipush 10, 2), (22, .imul, 1), (23, .iload_n 2, 1), (24, .iadd, 1), (25, .iload_n 3, 1), (26, .iastore, 1), (27, .aload_n 0, 1), (28, .getfield 40, 3), (31, .iload_n 2, 1), (32, .iconst (-1), 1), (33, .iastore, 1), (34, .aload_n 0, 1), (35, .iconst 1, 1), (36, .putfield 134, 3), (39, .return_, 1)]
theorem dtX1_tellBehind : th_dec cX1_tellBehind tbX1_tellBehind = true := by decide +kernel
section
variable {p0 : Program} {l : Launch} {e : Env} {s : State} {m : MethodId} {args : Array Value} {below : List Frame} {meth : Method} {c : Code} {D : va_G} {cI cZ : ClassId} {ad : Nat → Nat} {rr : Unit} {hh : th_H}
set_option maxHeartbeats 4000000 in
set_option maxRecDepth 100000 in
theorem mX1_tellBehind (l : Launch) (q : Nat) (hq : isQ q) (x1 : Int32) (x2 : Int32) (x3 : Int32) (h : th_H) (rr : Unit) (hh : th_H) (hf : fX1_tellBehind q x1 x2 x3 h = some (rr, hh)) : th_MI l LC yX1_tellBehind cX1_tellBehind 4 none 0 0 [.ref q, .int x1, .int x2, .int x3] h none hh := by
  refine th_MI_of (ls := [.ref q, .int x1, .int x2, .int x3]) RX1 rfl rfl rfl (Nat.le_of_ble_eq_true rfl) ?_
  intro p0 e s m args below meth c D cI cZ ad X
  unfold fX1_tellBehind at hf
  refine V_aload_n (pc := 0) X (th_da dtX1_tellBehind 0 rfl) rfl ?_
  refine V_getR (pc := 1) (j := 2) (t := (q + 10)) X (th_da dtX1_tellBehind 1 rfl) wfl_X1_22 iX1 rfl (Q_0 hq) (Nat.le_of_ble_eq_true rfl) rfl ?_
  refine V_iload_n (pc := 4) X (th_da dtX1_tellBehind 2 rfl) rfl ?_
  refine V_bipush (pc := 5) (v := 10) X (th_da dtX1_tellBehind 3 rfl) (by decide) ?_
  refine V_imul (pc := 7) X (th_da dtX1_tellBehind 4 rfl) ?_
  refine V_iload_n (pc := 8) X (th_da dtX1_tellBehind 5 rfl) rfl ?_
  refine V_iadd (pc := 9) X (th_da dtX1_tellBehind 6 rfl) ?_
  obtain ⟨v1, e1, g1, hf⟩ := th_rd_some hf
  refine V_iald (pc := 10) X (th_da dtX1_tellBehind 7 rfl) (Q_10 hq) g1 e1 ?_
  refine V_iload_n (pc := 11) X (th_da dtX1_tellBehind 8 rfl) rfl ?_
  refine V_icmp_eq (pc := 12) (tgt := 39) X (th_da dtX1_tellBehind 9 rfl) (by decide) (fun c2 => ?_) (fun c2 => ?_)
  · rw [if_pos c2] at hf
    exact V_vretF (pc := 39) X (th_da dtX1_tellBehind 27 rfl) hf
  · rw [if_neg c2] at hf
    refine V_aload_n (pc := 15) X (th_da dtX1_tellBehind 10 rfl) rfl ?_
    refine V_getR (pc := 16) (j := 2) (t := (q + 10)) X (th_da dtX1_tellBehind 11 rfl) wfl_X1_22 iX1 rfl (Q_0 hq) (Nat.le_of_ble_eq_true rfl) rfl ?_
    refine V_iload_n (pc := 19) X (th_da dtX1_tellBehind 12 rfl) rfl ?_
    refine V_bipush (pc := 20) (v := 10) X (th_da dtX1_tellBehind 13 rfl) (by decide) ?_
    refine V_imul (pc := 22) X (th_da dtX1_tellBehind 14 rfl) ?_
    refine V_iload_n (pc := 23) X (th_da dtX1_tellBehind 15 rfl) rfl ?_
    refine V_iadd (pc := 24) X (th_da dtX1_tellBehind 16 rfl) ?_
    refine V_iload_n (pc := 25) X (th_da dtX1_tellBehind 17 rfl) rfl ?_
    obtain ⟨h3, e3, g3, hf⟩ := th_wr_some hf
    refine V_iast (pc := 26) X (th_da dtX1_tellBehind 18 rfl) (Q_10 hq) g3 e3 ?_
    refine V_aload_n (pc := 27) X (th_da dtX1_tellBehind 19 rfl) rfl ?_
    refine V_getR (pc := 28) (j := 12) (t := (q + 16)) X (th_da dtX1_tellBehind 20 rfl) wfl_X1_40 iX1 rfl (Q_0 hq) (Nat.le_of_ble_eq_true rfl) rfl ?_
    refine V_iload_n (pc := 31) X (th_da dtX1_tellBehind 21 rfl) rfl ?_
    refine V_iconst (pc := 32) (v := (-1)) X (th_da dtX1_tellBehind 22 rfl) (by decide) ?_
    obtain ⟨h4, e4, g4, hf⟩ := th_wr_some hf
    refine V_iast (pc := 33) X (th_da dtX1_tellBehind 23 rfl) (Q_16 hq) g4 e4 ?_
    refine V_aload_n (pc := 34) X (th_da dtX1_tellBehind 24 rfl) rfl ?_
    refine V_iconst (pc := 35) (v := 1) X (th_da dtX1_tellBehind 25 rfl) (by decide) ?_
    obtain ⟨h5, e5, hf⟩ := th_st_some hf
    refine V_putI (pc := 36) (j := 15) (ty := .boolean) X (th_da dtX1_tellBehind 26 rfl) wfl_X1_134 iX1 rfl (Q_0 hq) (Nat.le_of_ble_eq_true rfl) rfl tyX1 tyX1_ok nmX1 rfl (tyX1_ok 15 (Nat.le_of_ble_eq_true rfl)) rfl rfl e5 ?_
    exact V_vretF (pc := 39) X (th_da dtX1_tellBehind 27 rfl) hf
end
def fX1_highestBelow_c4 (q : Nat) : Nat → Int32 → Int32 → th_H → Option (Int32 × th_H)
  | 0, _, _, _ => none
  | n + 1, y1, y3, h =>
    if (y3 < 0 : Prop) then
      some ((-1), h)
    else
      th_bd (fX0_goesOver (q + 1) y1 y3 h) fun u2 h2 =>
      if (u2 = 0 : Prop) then
        fX1_highestBelow_c4 q n y1 (y3 + (-1)) h2
      else
        some (y3, h2)
def fX1_highestBelow (q : Nat) (x1 : Int32) (x2 : Int32) (h : th_H) : Option (Int32 × th_H) :=
  fX1_highestBelow_c4 q 1000 x1 (x2 - 1) h
def tbX1_highestBelow : List (Nat × Instr × Nat) := [(0, .iload_n 2, 1), (1, .iconst 1, 1), (2, .isub, 1), (3, .istore_n 3, 1), (4, .iload_n 3, 1), (5, .ifCond .lt 23, 3), (8, .aload_n 0, 1), (9, .getfield 12, 3), (12, .iload_n 1, 1), (13, .iload_n 3, 1), (14, .invokevirtual 94, 3), (17, .ifCond .eq 5, 3), (20, .iload_n 3, 1), (21, .ireturn, 1), (22, .iinc 3 (-1), 3), (25, .goto (-21), 3), (28, .iconst (-1), 1), (29, .ireturn, 1)]
theorem dtX1_highestBelow : th_dec cX1_highestBelow tbX1_highestBelow = true := by decide +kernel
section
variable {p0 : Program} {l : Launch} {e : Env} {s : State} {m : MethodId} {args : Array Value} {below : List Frame} {meth : Method} {c : Code} {D : va_G} {cI cZ : ClassId} {ad : Nat → Nat} {rr : Int32} {hh : th_H}
set_option maxHeartbeats 4000000 in
set_option maxRecDepth 100000 in
theorem tX1_highestBelow_c4 (X : th_X p0 s m args meth c D cI cZ ad LC 4 RX1 cX1_highestBelow (some .int)) (q : Nat) (hq : isQ q) : ∀ (n : Nat) (y1 : Int32) (y3 : Int32) (h : th_H), fX1_highestBelow_c4 q n y1 y3 h = some (rr, hh) → th_V p0 l e { frames := 1, cells := 0, slots := 0, locals := 22 } s m args below meth c D cI cZ ad LC 4 (some (.int rr)) hh 4 [.ref q, .int y1, .null, .int y3] [] h := by
  intro n
  induction n with
  | zero => intro y1 y3 h hf; cases hf
  | succ n ih =>
    intro y1 y3 h hf
    rw [fX1_highestBelow_c4] at hf
    refine V_iload_n (pc := 4) X (th_da dtX1_highestBelow 4 rfl) rfl ?_
    refine V_if_lt (pc := 5) (tgt := 28) X (th_da dtX1_highestBelow 5 rfl) (by decide) (fun c1 => ?_) (fun c1 => ?_)
    · rw [if_pos c1] at hf
      refine V_iconst (pc := 28) (v := (-1)) X (th_da dtX1_highestBelow 16 rfl) (by decide) ?_
      exact V_iretF (pc := 29) X (th_da dtX1_highestBelow 17 rfl) hf
    · rw [if_neg c1] at hf
      refine V_aload_n (pc := 8) X (th_da dtX1_highestBelow 6 rfl) rfl ?_
      refine V_getR (pc := 9) (j := 0) (t := (q + 1)) X (th_da dtX1_highestBelow 7 rfl) wfl_X1_12 iX1 rfl (Q_0 hq) (Nat.le_of_ble_eq_true rfl) rfl ?_
      refine V_iload_n (pc := 12) X (th_da dtX1_highestBelow 8 rfl) rfl ?_
      refine V_iload_n (pc := 13) X (th_da dtX1_highestBelow 9 rfl) rfl ?_
      obtain ⟨u2, h2, e2, hf⟩ := th_bd_some hf
      refine V_callVi (pc := 14) (q := (q + 1)) (As := [.int y1, .int y3]) X (th_da dtX1_highestBelow 10 rfl) (mX0_goesOver l (q + 1) (Q_p hq) _ _ _ _ _ e2) wcd_X0_goesOver wml_X1_94 wim_X0_goesOver wse_X0_goesOver win_X0_goesOver hd_X0_goesOver ⟨Nat.le_of_ble_eq_true rfl, Nat.le_of_ble_eq_true rfl⟩ (Nat.le_of_ble_eq_true rfl) rfl (P_0 (Q_p hq)) rfl ?_
      refine V_if_eq (pc := 17) (tgt := 22) X (th_da dtX1_highestBelow 11 rfl) (by decide) (fun c3 => ?_) (fun c3 => ?_)
      · rw [if_pos c3] at hf
        refine V_iinc (pc := 22) (v := y3 + (-1)) (ls2 := [.ref q, .int y1, .null, .int (y3 + (-1))]) X (th_da dtX1_highestBelow 14 rfl) rfl rfl (Nat.le_of_ble_eq_true rfl) rfl rfl ?_
        refine V_goto (pc := 25) (tgt := 4) X (th_da dtX1_highestBelow 15 rfl) (by decide) ?_
        exact ih _ _ _ hf
      · rw [if_neg c3] at hf
        refine V_iload_n (pc := 20) X (th_da dtX1_highestBelow 12 rfl) rfl ?_
        exact V_iretF (pc := 21) X (th_da dtX1_highestBelow 13 rfl) hf
set_option maxHeartbeats 4000000 in
set_option maxRecDepth 100000 in
theorem mX1_highestBelow (l : Launch) (q : Nat) (hq : isQ q) (x1 : Int32) (x2 : Int32) (h : th_H) (rr : Int32) (hh : th_H) (hf : fX1_highestBelow q x1 x2 h = some (rr, hh)) : th_MI l LC yX1_highestBelow cX1_highestBelow 4 (some .int) 1 22 [.ref q, .int x1, .int x2] h (some (.int rr)) hh := by
  refine th_MI_of (ls := [.ref q, .int x1, .int x2, .null]) RX1 rfl rfl rfl (Nat.le_of_ble_eq_true rfl) ?_
  intro p0 e s m args below meth c D cI cZ ad X
  unfold fX1_highestBelow at hf
  refine V_iload_n (pc := 0) X (th_da dtX1_highestBelow 0 rfl) rfl ?_
  refine V_iconst (pc := 1) (v := 1) X (th_da dtX1_highestBelow 1 rfl) (by decide) ?_
  refine V_isub (pc := 2) X (th_da dtX1_highestBelow 2 rfl) ?_
  refine V_istore_n (pc := 3) (ls2 := [.ref q, .int x1, .int x2, .int (x2 - 1)]) X (th_da dtX1_highestBelow 3 rfl) (Nat.le_of_ble_eq_true rfl) rfl rfl ?_
  refine V_mask [true, true, false, true] (ls2 := [.ref q, .int x1, .null, .int (x2 - 1)]) rfl ?_
  exact tX1_highestBelow_c4 X _ hq _ _ _ _ hf
end
def fX1_arriveBack (q : Nat) (x1 : Int32) (x2 : Int32) (h : th_H) : Option (Int32 × th_H) :=
  th_rd h (q + 15) 20 x1 fun v1 =>
  th_bd (fX1_tellBehind q x1 x2 v1 h) fun _u2 h2 =>
  th_rd h2 (q + 15) 20 x1 fun v3 =>
  th_bd (fX1_offerOf q x2 h2) fun u4 h4 =>
  th_wr h4 (q + 15) 20 x1 (th_mn v3 u4) fun h5 =>
  th_bd (fX1_highestBelow q x1 x2 h5) fun u6 h6 =>
  th_wr h6 (q + 14) 20 x1 u6 fun h7 =>
  th_rd h7 (q + 14) 20 x1 fun v8 =>
  if (v8 = (-1) : Prop) then
    th_wr h7 (q + 13) 20 x1 0 fun h10 =>
    some ((20 : Int32) + x2, h10)
  else
    some ((20 : Int32) + x2, h7)
def tbX1_arriveBack : List (Nat × Instr × Nat) := [(0, .aload_n 0, 1), (1, .iload_n 1, 1), (2, .iload_n 2, 1), (3, .aload_n 0, 1), (4, .getfield 37, 3), (7, .iload_n 1, 1), (8, .iaload, 1), (9, .invokevirtual 151, 3), (12, .aload_n 0, 1), (13, .getfield 37, 3), (16, .iload_n 1, 1), (17, .aload_n 0, 1), (18, .getfield 37, 3), (21, .iload_n 1, 1), (22, .iaload, 1), (23, .aload_n 0, 1), (24, .iload_n 2, 1), (25, .invokevirtual 117, 3), (28, .invokestatic 101, 3), (31, .iastore, 1), (32, .aload_n 0, 1), (33, .getfield 34, 3), (36, .iload_n 1, 1), (37, .aload_n 0, 1), (38, .iload_n 1, 1), (39, .iload_n 2, 1), (40, .invokevirtual 172, 3), (43, .iastore, 1), (44, .aload_n 0, 1), (45, .getfield 34, 3), (48, .iload_n 1, 1), (49, .iaload, 1), (50, .iconst (-1), 1), (51, .if_icmp .ne 10, 3), (54, .aload_n 0, 1), (55, .getfield 31, 3), (58, .iload_n 1, 1), (59, .iconst 0, 1), (60, .iastore, 1), (61, .bipush 20, 2), (63, .iload_n 2, 1), (64, .iadd, 1), (65, .ireturn, 1)]
theorem dtX1_arriveBack : th_dec cX1_arriveBack tbX1_arriveBack = true := by decide +kernel
section
variable {p0 : Program} {l : Launch} {e : Env} {s : State} {m : MethodId} {args : Array Value} {below : List Frame} {meth : Method} {c : Code} {D : va_G} {cI cZ : ClassId} {ad : Nat → Nat} {rr : Int32} {hh : th_H}
set_option maxHeartbeats 4000000 in
set_option maxRecDepth 100000 in
theorem mX1_arriveBack (l : Launch) (q : Nat) (hq : isQ q) (x1 : Int32) (x2 : Int32) (h : th_H) (rr : Int32) (hh : th_H) (hf : fX1_arriveBack q x1 x2 h = some (rr, hh)) : th_MI l LC yX1_arriveBack cX1_arriveBack 3 (some .int) 4 95 [.ref q, .int x1, .int x2] h (some (.int rr)) hh := by
  refine th_MI_of (ls := [.ref q, .int x1, .int x2]) RX1 rfl rfl rfl (Nat.le_of_ble_eq_true rfl) ?_
  intro p0 e s m args below meth c D cI cZ ad X
  unfold fX1_arriveBack at hf
  refine V_aload_n (pc := 0) X (th_da dtX1_arriveBack 0 rfl) rfl ?_
  refine V_iload_n (pc := 1) X (th_da dtX1_arriveBack 1 rfl) rfl ?_
  refine V_iload_n (pc := 2) X (th_da dtX1_arriveBack 2 rfl) rfl ?_
  refine V_aload_n (pc := 3) X (th_da dtX1_arriveBack 3 rfl) rfl ?_
  refine V_getR (pc := 4) (j := 7) (t := (q + 15)) X (th_da dtX1_arriveBack 4 rfl) wfl_X1_37 iX1 rfl (Q_0 hq) (Nat.le_of_ble_eq_true rfl) rfl ?_
  refine V_iload_n (pc := 7) X (th_da dtX1_arriveBack 5 rfl) rfl ?_
  obtain ⟨v1, e1, g1, hf⟩ := th_rd_some hf
  refine V_iald (pc := 8) X (th_da dtX1_arriveBack 6 rfl) (Q_15 hq) g1 e1 ?_
  obtain ⟨u2, h2, e2, hf⟩ := th_bd_some hf
  refine V_callVv (pc := 9) (q := q) (As := [.int x1, .int x2, .int v1]) X (th_da dtX1_arriveBack 7 rfl) (mX1_tellBehind l q hq _ _ _ _ _ _ e2) wcd_X1_tellBehind wml_X1_151 wim_X1_tellBehind wse_X1_tellBehind win_X1_tellBehind hd_X1_tellBehind ⟨Nat.le_of_ble_eq_true rfl, Nat.le_of_ble_eq_true rfl⟩ (Nat.le_of_ble_eq_true rfl) rfl (Q_0 hq) rfl ?_
  refine V_aload_n (pc := 12) X (th_da dtX1_arriveBack 8 rfl) rfl ?_
  refine V_getR (pc := 13) (j := 7) (t := (q + 15)) X (th_da dtX1_arriveBack 9 rfl) wfl_X1_37 iX1 rfl (Q_0 hq) (Nat.le_of_ble_eq_true rfl) rfl ?_
  refine V_iload_n (pc := 16) X (th_da dtX1_arriveBack 10 rfl) rfl ?_
  refine V_aload_n (pc := 17) X (th_da dtX1_arriveBack 11 rfl) rfl ?_
  refine V_getR (pc := 18) (j := 7) (t := (q + 15)) X (th_da dtX1_arriveBack 12 rfl) wfl_X1_37 iX1 rfl (Q_0 hq) (Nat.le_of_ble_eq_true rfl) rfl ?_
  refine V_iload_n (pc := 21) X (th_da dtX1_arriveBack 13 rfl) rfl ?_
  obtain ⟨v3, e3, g3, hf⟩ := th_rd_some hf
  refine V_iald (pc := 22) X (th_da dtX1_arriveBack 14 rfl) (Q_15 hq) g3 e3 ?_
  refine V_aload_n (pc := 23) X (th_da dtX1_arriveBack 15 rfl) rfl ?_
  refine V_iload_n (pc := 24) X (th_da dtX1_arriveBack 16 rfl) rfl ?_
  obtain ⟨u4, h4, e4, hf⟩ := th_bd_some hf
  refine V_callVi (pc := 25) (q := q) (As := [.int x2]) X (th_da dtX1_arriveBack 17 rfl) (mX1_offerOf l q hq _ _ _ _ e4) wcd_X1_offerOf wml_X1_117 wim_X1_offerOf wse_X1_offerOf win_X1_offerOf hd_X1_offerOf ⟨Nat.le_of_ble_eq_true rfl, Nat.le_of_ble_eq_true rfl⟩ (Nat.le_of_ble_eq_true rfl) rfl (Q_0 hq) rfl ?_
  refine V_mmin (pc := 28) X (th_da dtX1_arriveBack 18 rfl) wml_X1_101 wst_J9_min_7cf53 win_J9_min_7cf53 wcd_J9_min_7cf53 (Nat.le_of_ble_eq_true rfl) (Nat.le_of_ble_eq_true rfl) ?_
  obtain ⟨h5, e5, g5, hf⟩ := th_wr_some hf
  refine V_iast (pc := 31) X (th_da dtX1_arriveBack 19 rfl) (Q_15 hq) g5 e5 ?_
  refine V_aload_n (pc := 32) X (th_da dtX1_arriveBack 20 rfl) rfl ?_
  refine V_getR (pc := 33) (j := 6) (t := (q + 14)) X (th_da dtX1_arriveBack 21 rfl) wfl_X1_34 iX1 rfl (Q_0 hq) (Nat.le_of_ble_eq_true rfl) rfl ?_
  refine V_iload_n (pc := 36) X (th_da dtX1_arriveBack 22 rfl) rfl ?_
  refine V_aload_n (pc := 37) X (th_da dtX1_arriveBack 23 rfl) rfl ?_
  refine V_iload_n (pc := 38) X (th_da dtX1_arriveBack 24 rfl) rfl ?_
  refine V_iload_n (pc := 39) X (th_da dtX1_arriveBack 25 rfl) rfl ?_
  obtain ⟨u6, h6, e6, hf⟩ := th_bd_some hf
  refine V_callVi (pc := 40) (q := q) (As := [.int x1, .int x2]) X (th_da dtX1_arriveBack 26 rfl) (mX1_highestBelow l q hq _ _ _ _ _ e6) wcd_X1_highestBelow wml_X1_172 wim_X1_highestBelow wse_X1_highestBelow win_X1_highestBelow hd_X1_highestBelow ⟨Nat.le_of_ble_eq_true rfl, Nat.le_of_ble_eq_true rfl⟩ (Nat.le_of_ble_eq_true rfl) rfl (Q_0 hq) rfl ?_
  obtain ⟨h7, e7, g7, hf⟩ := th_wr_some hf
  refine V_iast (pc := 43) X (th_da dtX1_arriveBack 27 rfl) (Q_14 hq) g7 e7 ?_
  refine V_aload_n (pc := 44) X (th_da dtX1_arriveBack 28 rfl) rfl ?_
  refine V_getR (pc := 45) (j := 6) (t := (q + 14)) X (th_da dtX1_arriveBack 29 rfl) wfl_X1_34 iX1 rfl (Q_0 hq) (Nat.le_of_ble_eq_true rfl) rfl ?_
  refine V_iload_n (pc := 48) X (th_da dtX1_arriveBack 30 rfl) rfl ?_
  obtain ⟨v8, e8, g8, hf⟩ := th_rd_some hf
  refine V_iald (pc := 49) X (th_da dtX1_arriveBack 31 rfl) (Q_14 hq) g8 e8 ?_
  refine V_iconst (pc := 50) (v := (-1)) X (th_da dtX1_arriveBack 32 rfl) (by decide) ?_
  refine V_icmp_ne (pc := 51) (tgt := 61) X (th_da dtX1_arriveBack 33 rfl) (by decide) (fun c9 => ?_) (fun c9 => ?_)
  · rw [if_pos c9] at hf
    refine V_aload_n (pc := 54) X (th_da dtX1_arriveBack 34 rfl) rfl ?_
    refine V_getR (pc := 55) (j := 5) (t := (q + 13)) X (th_da dtX1_arriveBack 35 rfl) wfl_X1_31 iX1 rfl (Q_0 hq) (Nat.le_of_ble_eq_true rfl) rfl ?_
    refine V_iload_n (pc := 58) X (th_da dtX1_arriveBack 36 rfl) rfl ?_
    refine V_iconst (pc := 59) (v := 0) X (th_da dtX1_arriveBack 37 rfl) (by decide) ?_
    obtain ⟨h10, e10, g10, hf⟩ := th_wr_some hf
    refine V_iast (pc := 60) X (th_da dtX1_arriveBack 38 rfl) (Q_13 hq) g10 e10 ?_
    refine V_bipush (pc := 61) (v := 20) X (th_da dtX1_arriveBack 39 rfl) (by decide) ?_
    refine V_iload_n (pc := 63) X (th_da dtX1_arriveBack 40 rfl) rfl ?_
    refine V_iadd (pc := 64) X (th_da dtX1_arriveBack 41 rfl) ?_
    exact V_iretF (pc := 65) X (th_da dtX1_arriveBack 42 rfl) hf
  · rw [if_neg c9] at hf
    refine V_bipush (pc := 61) (v := 20) X (th_da dtX1_arriveBack 39 rfl) (by decide) ?_
    refine V_iload_n (pc := 63) X (th_da dtX1_arriveBack 40 rfl) rfl ?_
    refine V_iadd (pc := 64) X (th_da dtX1_arriveBack 41 rfl) ?_
    exact V_iretF (pc := 65) X (th_da dtX1_arriveBack 42 rfl) hf
end
def fX1_goOn_c52 (q : Nat) (y1 : Int32) (h : th_H) : Option (Int32 × th_H) :=
  th_rd h (q + 14) 20 y1 fun v1 =>
  th_bd (fX3_isLink v1 h) fun u2 h2 =>
  if (u2 = 0 : Prop) then
    th_wr h2 (q + 13) 20 y1 0 fun h4 =>
    some ((-1), h4)
  else
    th_rd h2 (q + 13) 20 y1 fun v5 =>
    if (v5 = 1 : Prop) then
      th_bd (fX1_arriveForth q y1 v1 h2) fun u7 h7 =>
      some (u7, h7)
    else
      th_bd (fX1_arriveBack q y1 v1 h2) fun u8 h8 =>
      some (u8, h8)
def fX1_goOn (q : Nat) (x1 : Int32) (h : th_H) : Option (Int32 × th_H) :=
  th_rd h (q + 13) 20 x1 fun v1 =>
  if (v1 = 0 : Prop) then
    th_st (th_up h q 9 ((h.1 q 9) + 1)) fun h3 =>
    th_wr h3 (q + 13) 20 x1 1 fun h4 =>
    th_bd (fX1_lowestFrom q x1 0 h4) fun u5 h5 =>
    th_wr h5 (q + 14) 20 x1 u5 fun h6 =>
    th_bd (fX0_ownOf (q + 1) x1 h6) fun u7 h7 =>
    th_wr h7 (q + 15) 20 x1 u7 fun h8 =>
    fX1_goOn_c52 q x1 h8
  else
    fX1_goOn_c52 q x1 h
def tbX1_goOn : List (Nat × Instr × Nat) := [(0, .aload_n 0, 1), (1, .getfield 31, 3), (4, .iload_n 1, 1), (5, .iaload, 1), (6, .ifCond .ne 46, 3), (9, .aload_n 0, 1), (10, .dup, 1), (11, .getfield 70, 3), (14, .iconst 1, 1), (15, .iadd, 1), (16, .putfield 70, 3), (19, .aload_n 0, 1), (20, .getfield 31, 3), (23, .iload_n 1, 1), (24, .iconst 1, 1), (25, .iastore, 1), (26, .aload_n 0, 1), (27, .getfield 34, 3), (30, .iload_n 1, 1), (31, .aload_n 0, 1), (32, .iload_n 1, 1), (33, .iconst 0, 1), (34, .invokevirtual 160, 3), (37, .iastore, 1), (38, .aload_n 0, 1), (39, .getfield 37, 3), (42, .iload_n 1, 1), (43, .aload_n 0, 1), (44, .getfield 12, 3), (47, .iload_n 1, 1), (48, .invokevirtual 138, 3), (51, .iastore, 1), (52, .aload_n 0, 1), (53, .getfield 34, 3), (56, .iload_n 1, 1), (57, .iaload, 1), (58, .istore_n 2, 1), (59, .iload_n 2, 1), (60, .invokestatic 163, 3), (63, .ifCond .ne 12, 3), (66, .aload_n 0, 1), (67, .getfield 31, 3), (70, .iload_n 1, 1), (71, .iconst 0, 1), (72, .iastore, 1), (73, .iconst (-1), 1), (74, .ireturn, 1), (75, .aload_n 0, 1), (76, .getfield 31, 3), (79, .iload_n 1, 1), (80, .iaload, 1), (81, .iconst 1, 1), (82, .if_icmp .ne 12, 3), (85, .aload_n 0, 1), (86, .iload_n 1, 1), (87, .iload_n 2, 1), (88, .invokevirtual 166, 3), (91, .goto 9, 3), (94, .aload_n 0, 1), (95, .iload_n 1, 1), (96, .iload_n 2, 1), (97, .invokevirtual 169, 3), (100, .ireturn, 1)]
theorem dtX1_goOn : th_dec cX1_goOn tbX1_goOn = true := by decide +kernel
section
variable {p0 : Program} {l : Launch} {e : Env} {s : State} {m : MethodId} {args : Array Value} {below : List Frame} {meth : Method} {c : Code} {D : va_G} {cI cZ : ClassId} {ad : Nat → Nat} {rr : Int32} {hh : th_H}
set_option maxHeartbeats 4000000 in
set_option maxRecDepth 100000 in
theorem tX1_goOn_c52 (X : th_X p0 s m args meth c D cI cZ ad LC 3 RX1 cX1_goOn (some .int)) (q : Nat) (hq : isQ q) (y1 : Int32) (h : th_H) (hf : fX1_goOn_c52 q y1 h = some (rr, hh)) : th_V p0 l e { frames := 5, cells := 0, slots := 0, locals := 117 } s m args below meth c D cI cZ ad LC 3 (some (.int rr)) hh 52 [.ref q, .int y1, .null] [] h := by
  unfold fX1_goOn_c52 at hf
  refine V_aload_n (pc := 52) X (th_da dtX1_goOn 32 rfl) rfl ?_
  refine V_getR (pc := 53) (j := 6) (t := (q + 14)) X (th_da dtX1_goOn 33 rfl) wfl_X1_34 iX1 rfl (Q_0 hq) (Nat.le_of_ble_eq_true rfl) rfl ?_
  refine V_iload_n (pc := 56) X (th_da dtX1_goOn 34 rfl) rfl ?_
  obtain ⟨v1, e1, g1, hf⟩ := th_rd_some hf
  refine V_iald (pc := 57) X (th_da dtX1_goOn 35 rfl) (Q_14 hq) g1 e1 ?_
  refine V_istore_n (pc := 58) (ls2 := [.ref q, .int y1, .int v1]) X (th_da dtX1_goOn 36 rfl) (Nat.le_of_ble_eq_true rfl) rfl rfl ?_
  refine V_iload_n (pc := 59) X (th_da dtX1_goOn 37 rfl) rfl ?_
  obtain ⟨u2, h2, e2, hf⟩ := th_bd_some hf
  refine V_callSNi (pc := 60) (As := [.int v1]) X (th_da dtX1_goOn 38 rfl) (mX3_isLink l _ _ _ _ e2) wcd_X3_isLink  wst_X3_isLink win_X3_isLink hd_X3_isLink ⟨Nat.le_of_ble_eq_true rfl, Nat.le_of_ble_eq_true rfl⟩ (Nat.le_of_ble_eq_true rfl) rfl ?_
  refine V_if_ne (pc := 63) (tgt := 75) X (th_da dtX1_goOn 39 rfl) (by decide) (fun c3 => ?_) (fun c3 => ?_)
  · rw [if_pos c3] at hf
    refine V_aload_n (pc := 66) X (th_da dtX1_goOn 40 rfl) rfl ?_
    refine V_getR (pc := 67) (j := 5) (t := (q + 13)) X (th_da dtX1_goOn 41 rfl) wfl_X1_31 iX1 rfl (Q_0 hq) (Nat.le_of_ble_eq_true rfl) rfl ?_
    refine V_iload_n (pc := 70) X (th_da dtX1_goOn 42 rfl) rfl ?_
    refine V_iconst (pc := 71) (v := 0) X (th_da dtX1_goOn 43 rfl) (by decide) ?_
    obtain ⟨h4, e4, g4, hf⟩ := th_wr_some hf
    refine V_iast (pc := 72) X (th_da dtX1_goOn 44 rfl) (Q_13 hq) g4 e4 ?_
    refine V_iconst (pc := 73) (v := (-1)) X (th_da dtX1_goOn 45 rfl) (by decide) ?_
    exact V_iretF (pc := 74) X (th_da dtX1_goOn 46 rfl) hf
  · rw [if_neg c3] at hf
    refine V_aload_n (pc := 75) X (th_da dtX1_goOn 47 rfl) rfl ?_
    refine V_getR (pc := 76) (j := 5) (t := (q + 13)) X (th_da dtX1_goOn 48 rfl) wfl_X1_31 iX1 rfl (Q_0 hq) (Nat.le_of_ble_eq_true rfl) rfl ?_
    refine V_iload_n (pc := 79) X (th_da dtX1_goOn 49 rfl) rfl ?_
    obtain ⟨v5, e5, g5, hf⟩ := th_rd_some hf
    refine V_iald (pc := 80) X (th_da dtX1_goOn 50 rfl) (Q_13 hq) g5 e5 ?_
    refine V_iconst (pc := 81) (v := 1) X (th_da dtX1_goOn 51 rfl) (by decide) ?_
    refine V_icmp_ne (pc := 82) (tgt := 94) X (th_da dtX1_goOn 52 rfl) (by decide) (fun c6 => ?_) (fun c6 => ?_)
    · rw [if_pos c6] at hf
      refine V_aload_n (pc := 85) X (th_da dtX1_goOn 53 rfl) rfl ?_
      refine V_iload_n (pc := 86) X (th_da dtX1_goOn 54 rfl) rfl ?_
      refine V_iload_n (pc := 87) X (th_da dtX1_goOn 55 rfl) rfl ?_
      obtain ⟨u7, h7, e7, hf⟩ := th_bd_some hf
      refine V_callVi (pc := 88) (q := q) (As := [.int y1, .int v1]) X (th_da dtX1_goOn 56 rfl) (mX1_arriveForth l q hq _ _ _ _ _ e7) wcd_X1_arriveForth wml_X1_166 wim_X1_arriveForth wse_X1_arriveForth win_X1_arriveForth hd_X1_arriveForth ⟨Nat.le_of_ble_eq_true rfl, Nat.le_of_ble_eq_true rfl⟩ (Nat.le_of_ble_eq_true rfl) rfl (Q_0 hq) rfl ?_
      refine V_goto (pc := 91) (tgt := 100) X (th_da dtX1_goOn 57 rfl) (by decide) ?_
      exact V_iretF (pc := 100) X (th_da dtX1_goOn 62 rfl) hf
    · rw [if_neg c6] at hf
      refine V_aload_n (pc := 94) X (th_da dtX1_goOn 58 rfl) rfl ?_
      refine V_iload_n (pc := 95) X (th_da dtX1_goOn 59 rfl) rfl ?_
      refine V_iload_n (pc := 96) X (th_da dtX1_goOn 60 rfl) rfl ?_
      obtain ⟨u8, h8, e8, hf⟩ := th_bd_some hf
      refine V_callVi (pc := 97) (q := q) (As := [.int y1, .int v1]) X (th_da dtX1_goOn 61 rfl) (mX1_arriveBack l q hq _ _ _ _ _ e8) wcd_X1_arriveBack wml_X1_169 wim_X1_arriveBack wse_X1_arriveBack win_X1_arriveBack hd_X1_arriveBack ⟨Nat.le_of_ble_eq_true rfl, Nat.le_of_ble_eq_true rfl⟩ (Nat.le_of_ble_eq_true rfl) rfl (Q_0 hq) rfl ?_
      exact V_iretF (pc := 100) X (th_da dtX1_goOn 62 rfl) hf
set_option maxHeartbeats 4000000 in
set_option maxRecDepth 100000 in
theorem mX1_goOn (l : Launch) (q : Nat) (hq : isQ q) (x1 : Int32) (h : th_H) (rr : Int32) (hh : th_H) (hf : fX1_goOn q x1 h = some (rr, hh)) : th_MI l LC yX1_goOn cX1_goOn 3 (some .int) 5 117 [.ref q, .int x1] h (some (.int rr)) hh := by
  refine th_MI_of (ls := [.ref q, .int x1, .null]) RX1 rfl rfl rfl (Nat.le_of_ble_eq_true rfl) ?_
  intro p0 e s m args below meth c D cI cZ ad X
  unfold fX1_goOn at hf
  refine V_aload_n (pc := 0) X (th_da dtX1_goOn 0 rfl) rfl ?_
  refine V_getR (pc := 1) (j := 5) (t := (q + 13)) X (th_da dtX1_goOn 1 rfl) wfl_X1_31 iX1 rfl (Q_0 hq) (Nat.le_of_ble_eq_true rfl) rfl ?_
  refine V_iload_n (pc := 4) X (th_da dtX1_goOn 2 rfl) rfl ?_
  obtain ⟨v1, e1, g1, hf⟩ := th_rd_some hf
  refine V_iald (pc := 5) X (th_da dtX1_goOn 3 rfl) (Q_13 hq) g1 e1 ?_
  refine V_if_ne (pc := 6) (tgt := 52) X (th_da dtX1_goOn 4 rfl) (by decide) (fun c2 => ?_) (fun c2 => ?_)
  · rw [if_pos c2] at hf
    refine V_aload_n (pc := 9) X (th_da dtX1_goOn 5 rfl) rfl ?_
    refine V_dup (pc := 10) X (th_da dtX1_goOn 6 rfl) rfl ?_
    refine V_getI (pc := 11) (j := 9) X (th_da dtX1_goOn 7 rfl) wfl_X1_70 iX1 rfl (Q_0 hq) (Nat.le_of_ble_eq_true rfl) rfl ?_
    refine V_iconst (pc := 14) (v := 1) X (th_da dtX1_goOn 8 rfl) (by decide) ?_
    refine V_iadd (pc := 15) X (th_da dtX1_goOn 9 rfl) ?_
    obtain ⟨h3, e3, hf⟩ := th_st_some hf
    refine V_putI (pc := 16) (j := 9) (ty := .int) X (th_da dtX1_goOn 10 rfl) wfl_X1_70 iX1 rfl (Q_0 hq) (Nat.le_of_ble_eq_true rfl) rfl tyX1 tyX1_ok nmX1 rfl (tyX1_ok 9 (Nat.le_of_ble_eq_true rfl)) rfl rfl e3 ?_
    refine V_aload_n (pc := 19) X (th_da dtX1_goOn 11 rfl) rfl ?_
    refine V_getR (pc := 20) (j := 5) (t := (q + 13)) X (th_da dtX1_goOn 12 rfl) wfl_X1_31 iX1 rfl (Q_0 hq) (Nat.le_of_ble_eq_true rfl) rfl ?_
    refine V_iload_n (pc := 23) X (th_da dtX1_goOn 13 rfl) rfl ?_
    refine V_iconst (pc := 24) (v := 1) X (th_da dtX1_goOn 14 rfl) (by decide) ?_
    obtain ⟨h4, e4, g4, hf⟩ := th_wr_some hf
    refine V_iast (pc := 25) X (th_da dtX1_goOn 15 rfl) (Q_13 hq) g4 e4 ?_
    refine V_aload_n (pc := 26) X (th_da dtX1_goOn 16 rfl) rfl ?_
    refine V_getR (pc := 27) (j := 6) (t := (q + 14)) X (th_da dtX1_goOn 17 rfl) wfl_X1_34 iX1 rfl (Q_0 hq) (Nat.le_of_ble_eq_true rfl) rfl ?_
    refine V_iload_n (pc := 30) X (th_da dtX1_goOn 18 rfl) rfl ?_
    refine V_aload_n (pc := 31) X (th_da dtX1_goOn 19 rfl) rfl ?_
    refine V_iload_n (pc := 32) X (th_da dtX1_goOn 20 rfl) rfl ?_
    refine V_iconst (pc := 33) (v := 0) X (th_da dtX1_goOn 21 rfl) (by decide) ?_
    obtain ⟨u5, h5, e5, hf⟩ := th_bd_some hf
    refine V_callVi (pc := 34) (q := q) (As := [.int x1, .int 0]) X (th_da dtX1_goOn 22 rfl) (mX1_lowestFrom l q hq _ _ _ _ _ e5) wcd_X1_lowestFrom wml_X1_160 wim_X1_lowestFrom wse_X1_lowestFrom win_X1_lowestFrom hd_X1_lowestFrom ⟨Nat.le_of_ble_eq_true rfl, Nat.le_of_ble_eq_true rfl⟩ (Nat.le_of_ble_eq_true rfl) rfl (Q_0 hq) rfl ?_
    obtain ⟨h6, e6, g6, hf⟩ := th_wr_some hf
    refine V_iast (pc := 37) X (th_da dtX1_goOn 23 rfl) (Q_14 hq) g6 e6 ?_
    refine V_aload_n (pc := 38) X (th_da dtX1_goOn 24 rfl) rfl ?_
    refine V_getR (pc := 39) (j := 7) (t := (q + 15)) X (th_da dtX1_goOn 25 rfl) wfl_X1_37 iX1 rfl (Q_0 hq) (Nat.le_of_ble_eq_true rfl) rfl ?_
    refine V_iload_n (pc := 42) X (th_da dtX1_goOn 26 rfl) rfl ?_
    refine V_aload_n (pc := 43) X (th_da dtX1_goOn 27 rfl) rfl ?_
    refine V_getR (pc := 44) (j := 0) (t := (q + 1)) X (th_da dtX1_goOn 28 rfl) wfl_X1_12 iX1 rfl (Q_0 hq) (Nat.le_of_ble_eq_true rfl) rfl ?_
    refine V_iload_n (pc := 47) X (th_da dtX1_goOn 29 rfl) rfl ?_
    obtain ⟨u7, h7, e7, hf⟩ := th_bd_some hf
    refine V_callVi (pc := 48) (q := (q + 1)) (As := [.int x1]) X (th_da dtX1_goOn 30 rfl) (mX0_ownOf l (q + 1) (Q_p hq) _ _ _ _ e7) wcd_X0_ownOf wml_X1_138 wim_X0_ownOf wse_X0_ownOf win_X0_ownOf hd_X0_ownOf ⟨Nat.le_of_ble_eq_true rfl, Nat.le_of_ble_eq_true rfl⟩ (Nat.le_of_ble_eq_true rfl) rfl (P_0 (Q_p hq)) rfl ?_
    obtain ⟨h8, e8, g8, hf⟩ := th_wr_some hf
    refine V_iast (pc := 51) X (th_da dtX1_goOn 31 rfl) (Q_15 hq) g8 e8 ?_
    exact tX1_goOn_c52 X _ hq _ _ hf
  · rw [if_neg c2] at hf
    exact tX1_goOn_c52 X _ hq _ _ hf
end
def fX1_send_c84 (q : Nat) : Nat → Int32 → Int32 → Int32 → th_H → Option (Unit × th_H)
  | 0, _, _, _, _ => none
  | n + 1, y1, y3, y4, h =>
    if (y4 < 0 : Prop) then
      some ((), h)
    else
      th_bd (fX0_goesOver (q + 1) y1 y4 h) fun u2 h2 =>
      if (u2 = 0 : Prop) then
        fX1_send_c84 q n y1 y3 (y4 + (-1)) h2
      else
        th_bd (fX1_tellBehind q y1 y4 y3 h2) fun _u4 h4 =>
        th_bd (fX1_offerOf q y4 h4) fun u5 h5 =>
        fX1_send_c84 q n y1 (th_mn y3 u5) (y4 + (-1)) h5
def fX1_send_c21 (q : Nat) : Nat → Int32 → Int32 → Int32 → th_H → Option (Unit × th_H)
  | 0, _, _, _, _ => none
  | n + 1, y1, y2, y3, h =>
    if (y3 < 10 : Prop) then
      th_bd (fX0_goesOver (q + 1) y1 y3 h) fun u2 h2 =>
      if (u2 = 0 : Prop) then
        fX1_send_c21 q n y1 y2 (y3 + 1) h2
      else
        th_bd (fX1_tellAhead q y1 y3 y2 h2) fun _u4 h4 =>
        th_bd (fX1_isLostAt q y3 h4) fun u5 h5 =>
        if (u5 = 0 : Prop) then
          th_bd (fX1_offerOf q y3 h5) fun u7 h7 =>
          fX1_send_c21 q n y1 (th_mn y2 u7) (y3 + 1) h7
        else
          some ((), h5)
    else
      th_bd (fX1_tell q y1 y2 h) fun _u8 h8 =>
      fX1_send_c84 q 1000 y1 1000000 9 h8
def fX1_send (q : Nat) (x1 : Int32) (h : th_H) : Option (Unit × th_H) :=
  th_st (th_up h q 9 ((h.1 q 9) + 1)) fun h1 =>
  th_bd (fX0_ownOf (q + 1) x1 h1) fun u2 h2 =>
  fX1_send_c21 q 1000 x1 u2 0 h2
def tbX1_send : List (Nat × Instr × Nat) := [(0, .aload_n 0, 1), (1, .dup, 1), (2, .getfield 70, 3), (5, .iconst 1, 1), (6, .iadd, 1), (7, .putfield 70, 3), (10, .aload_n 0, 1), (11, .getfield 12, 3), (14, .iload_n 1, 1), (15, .invokevirtual 138, 3), (18, .istore_n 2, 1), (19, .iconst 0, 1), (20, .istore_n 3, 1), (21, .iload_n 3, 1), (22, .bipush 10, 2), (24, .if_icmp .ge 47, 3), (27, .aload_n 0, 1), (28, .getfield 12, 3), (31, .iload_n 1, 1), (32, .iload_n 3, 1), (33, .invokevirtual 94, 3), (36, .ifCond .eq 29, 3), (39, .aload_n 0, 1), (40, .iload_n 1, 1), (41, .iload_n 3, 1), (42, .iload_n 2, 1), (43, .invokevirtual 141, 3), (46, .aload_n 0, 1), (47, .iload_n 3, 1), (48, .invokevirtual 145, 3), (51, .ifCond .eq 4, 3), (54, .return_, 1), (55, .iload_n 2, 1), (56, .aload_n 0, 1), (57, .iload_n 3, 1), (58, .invokevirtual 117, 3), (61, .invokestatic 101, 3), (64, .istore_n 2, 1), (65, .iinc 3 1, 3), (68, .goto (-47), 3), (71, .aload_n 0, 1), (72, .iload_n 1, 1), (73, .iload_n 2, 1), (74, .invokevirtual 148, 3), (77, .ldc 50, 2), (79, .istore_n 3, 1), (80, .bipush 9, 2), (82, .istore 4, 2), (84, .iload 4, 2), (86, .ifCond .lt 41, 3), (89, .aload_n 0, 1), (90, .getfield 12, 3), (93, .iload_n 1, 1), (94, .iload 4, 2), (96, .invokevirtual 94, 3), (99, .ifCond .eq 22, 3), (102, .aload_n 0, 1), (103, .iload_n 1, 1), (104, .iload 4, 2), (106, .iload_n 3, 1), (107, .invokevirtual 151, 3), (110, .iload_n 3, 1), (111, .aload_n 0, 1), (112, .iload 4, 2), (114, .invokevirtual 117, 3), (117, .invokestatic 101, 3), (120, .istore_n 3, 1), (121, .iinc 4 (-1), 3), (124, .goto (-40), 3), (127, .return_, 1)]
theorem dtX1_send : th_dec cX1_send tbX1_send = true := by decide +kernel
section
variable {p0 : Program} {l : Launch} {e : Env} {s : State} {m : MethodId} {args : Array Value} {below : List Frame} {meth : Method} {c : Code} {D : va_G} {cI cZ : ClassId} {ad : Nat → Nat} {rr : Unit} {hh : th_H}
set_option maxHeartbeats 4000000 in
set_option maxRecDepth 100000 in
theorem tX1_send_c84 (X : th_X p0 s m args meth c D cI cZ ad LC 5 RX1 cX1_send none) (q : Nat) (hq : isQ q) : ∀ (n : Nat) (y1 : Int32) (y3 : Int32) (y4 : Int32) (h : th_H), fX1_send_c84 q n y1 y3 y4 h = some (rr, hh) → th_V p0 l e { frames := 4, cells := 0, slots := 0, locals := 95 } s m args below meth c D cI cZ ad LC 5 none hh 84 [.ref q, .int y1, .null, .int y3, .int y4] [] h := by
  intro n
  induction n with
  | zero => intro y1 y3 y4 h hf; cases hf
  | succ n ih =>
    intro y1 y3 y4 h hf
    rw [fX1_send_c84] at hf
    refine V_iload (pc := 84) X (th_da dtX1_send 48 rfl) rfl ?_
    refine V_if_lt (pc := 86) (tgt := 127) X (th_da dtX1_send 49 rfl) (by decide) (fun c1 => ?_) (fun c1 => ?_)
    · rw [if_pos c1] at hf
      exact V_vretF (pc := 127) X (th_da dtX1_send 69 rfl) hf
    · rw [if_neg c1] at hf
      refine V_aload_n (pc := 89) X (th_da dtX1_send 50 rfl) rfl ?_
      refine V_getR (pc := 90) (j := 0) (t := (q + 1)) X (th_da dtX1_send 51 rfl) wfl_X1_12 iX1 rfl (Q_0 hq) (Nat.le_of_ble_eq_true rfl) rfl ?_
      refine V_iload_n (pc := 93) X (th_da dtX1_send 52 rfl) rfl ?_
      refine V_iload (pc := 94) X (th_da dtX1_send 53 rfl) rfl ?_
      obtain ⟨u2, h2, e2, hf⟩ := th_bd_some hf
      refine V_callVi (pc := 96) (q := (q + 1)) (As := [.int y1, .int y4]) X (th_da dtX1_send 54 rfl) (mX0_goesOver l (q + 1) (Q_p hq) _ _ _ _ _ e2) wcd_X0_goesOver wml_X1_94 wim_X0_goesOver wse_X0_goesOver win_X0_goesOver hd_X0_goesOver ⟨Nat.le_of_ble_eq_true rfl, Nat.le_of_ble_eq_true rfl⟩ (Nat.le_of_ble_eq_true rfl) rfl (P_0 (Q_p hq)) rfl ?_
      refine V_if_eq (pc := 99) (tgt := 121) X (th_da dtX1_send 55 rfl) (by decide) (fun c3 => ?_) (fun c3 => ?_)
      · rw [if_pos c3] at hf
        refine V_iinc (pc := 121) (v := y4 + (-1)) (ls2 := [.ref q, .int y1, .null, .int y3, .int (y4 + (-1))]) X (th_da dtX1_send 67 rfl) rfl rfl (Nat.le_of_ble_eq_true rfl) rfl rfl ?_
        refine V_goto (pc := 124) (tgt := 84) X (th_da dtX1_send 68 rfl) (by decide) ?_
        exact ih _ _ _ _ hf
      · rw [if_neg c3] at hf
        refine V_aload_n (pc := 102) X (th_da dtX1_send 56 rfl) rfl ?_
        refine V_iload_n (pc := 103) X (th_da dtX1_send 57 rfl) rfl ?_
        refine V_iload (pc := 104) X (th_da dtX1_send 58 rfl) rfl ?_
        refine V_iload_n (pc := 106) X (th_da dtX1_send 59 rfl) rfl ?_
        obtain ⟨u4, h4, e4, hf⟩ := th_bd_some hf
        refine V_callVv (pc := 107) (q := q) (As := [.int y1, .int y4, .int y3]) X (th_da dtX1_send 60 rfl) (mX1_tellBehind l q hq _ _ _ _ _ _ e4) wcd_X1_tellBehind wml_X1_151 wim_X1_tellBehind wse_X1_tellBehind win_X1_tellBehind hd_X1_tellBehind ⟨Nat.le_of_ble_eq_true rfl, Nat.le_of_ble_eq_true rfl⟩ (Nat.le_of_ble_eq_true rfl) rfl (Q_0 hq) rfl ?_
        refine V_iload_n (pc := 110) X (th_da dtX1_send 61 rfl) rfl ?_
        refine V_aload_n (pc := 111) X (th_da dtX1_send 62 rfl) rfl ?_
        refine V_iload (pc := 112) X (th_da dtX1_send 63 rfl) rfl ?_
        obtain ⟨u5, h5, e5, hf⟩ := th_bd_some hf
        refine V_callVi (pc := 114) (q := q) (As := [.int y4]) X (th_da dtX1_send 64 rfl) (mX1_offerOf l q hq _ _ _ _ e5) wcd_X1_offerOf wml_X1_117 wim_X1_offerOf wse_X1_offerOf win_X1_offerOf hd_X1_offerOf ⟨Nat.le_of_ble_eq_true rfl, Nat.le_of_ble_eq_true rfl⟩ (Nat.le_of_ble_eq_true rfl) rfl (Q_0 hq) rfl ?_
        refine V_mmin (pc := 117) X (th_da dtX1_send 65 rfl) wml_X1_101 wst_J9_min_7cf53 win_J9_min_7cf53 wcd_J9_min_7cf53 (Nat.le_of_ble_eq_true rfl) (Nat.le_of_ble_eq_true rfl) ?_
        refine V_istore_n (pc := 120) (ls2 := [.ref q, .int y1, .null, .int (th_mn y3 u5), .int y4]) X (th_da dtX1_send 66 rfl) (Nat.le_of_ble_eq_true rfl) rfl rfl ?_
        refine V_iinc (pc := 121) (v := y4 + (-1)) (ls2 := [.ref q, .int y1, .null, .int (th_mn y3 u5), .int (y4 + (-1))]) X (th_da dtX1_send 67 rfl) rfl rfl (Nat.le_of_ble_eq_true rfl) rfl rfl ?_
        refine V_goto (pc := 124) (tgt := 84) X (th_da dtX1_send 68 rfl) (by decide) ?_
        exact ih _ _ _ _ hf
set_option maxHeartbeats 4000000 in
set_option maxRecDepth 100000 in
theorem tX1_send_c21 (X : th_X p0 s m args meth c D cI cZ ad LC 5 RX1 cX1_send none) (q : Nat) (hq : isQ q) : ∀ (n : Nat) (y1 : Int32) (y2 : Int32) (y3 : Int32) (h : th_H), fX1_send_c21 q n y1 y2 y3 h = some (rr, hh) → th_V p0 l e { frames := 4, cells := 0, slots := 0, locals := 95 } s m args below meth c D cI cZ ad LC 5 none hh 21 [.ref q, .int y1, .int y2, .int y3, .null] [] h := by
  intro n
  induction n with
  | zero => intro y1 y2 y3 h hf; cases hf
  | succ n ih =>
    intro y1 y2 y3 h hf
    rw [fX1_send_c21] at hf
    refine V_iload_n (pc := 21) X (th_da dtX1_send 13 rfl) rfl ?_
    refine V_bipush (pc := 22) (v := 10) X (th_da dtX1_send 14 rfl) (by decide) ?_
    refine V_icmp_ge (pc := 24) (tgt := 71) X (th_da dtX1_send 15 rfl) (by decide) (fun c1 => ?_) (fun c1 => ?_)
    · rw [if_pos c1] at hf
      refine V_aload_n (pc := 27) X (th_da dtX1_send 16 rfl) rfl ?_
      refine V_getR (pc := 28) (j := 0) (t := (q + 1)) X (th_da dtX1_send 17 rfl) wfl_X1_12 iX1 rfl (Q_0 hq) (Nat.le_of_ble_eq_true rfl) rfl ?_
      refine V_iload_n (pc := 31) X (th_da dtX1_send 18 rfl) rfl ?_
      refine V_iload_n (pc := 32) X (th_da dtX1_send 19 rfl) rfl ?_
      obtain ⟨u2, h2, e2, hf⟩ := th_bd_some hf
      refine V_callVi (pc := 33) (q := (q + 1)) (As := [.int y1, .int y3]) X (th_da dtX1_send 20 rfl) (mX0_goesOver l (q + 1) (Q_p hq) _ _ _ _ _ e2) wcd_X0_goesOver wml_X1_94 wim_X0_goesOver wse_X0_goesOver win_X0_goesOver hd_X0_goesOver ⟨Nat.le_of_ble_eq_true rfl, Nat.le_of_ble_eq_true rfl⟩ (Nat.le_of_ble_eq_true rfl) rfl (P_0 (Q_p hq)) rfl ?_
      refine V_if_eq (pc := 36) (tgt := 65) X (th_da dtX1_send 21 rfl) (by decide) (fun c3 => ?_) (fun c3 => ?_)
      · rw [if_pos c3] at hf
        refine V_iinc (pc := 65) (v := y3 + 1) (ls2 := [.ref q, .int y1, .int y2, .int (y3 + 1), .null]) X (th_da dtX1_send 38 rfl) rfl rfl (Nat.le_of_ble_eq_true rfl) rfl rfl ?_
        refine V_goto (pc := 68) (tgt := 21) X (th_da dtX1_send 39 rfl) (by decide) ?_
        exact ih _ _ _ _ hf
      · rw [if_neg c3] at hf
        refine V_aload_n (pc := 39) X (th_da dtX1_send 22 rfl) rfl ?_
        refine V_iload_n (pc := 40) X (th_da dtX1_send 23 rfl) rfl ?_
        refine V_iload_n (pc := 41) X (th_da dtX1_send 24 rfl) rfl ?_
        refine V_iload_n (pc := 42) X (th_da dtX1_send 25 rfl) rfl ?_
        obtain ⟨u4, h4, e4, hf⟩ := th_bd_some hf
        refine V_callVv (pc := 43) (q := q) (As := [.int y1, .int y3, .int y2]) X (th_da dtX1_send 26 rfl) (mX1_tellAhead l q hq _ _ _ _ _ _ e4) wcd_X1_tellAhead wml_X1_141 wim_X1_tellAhead wse_X1_tellAhead win_X1_tellAhead hd_X1_tellAhead ⟨Nat.le_of_ble_eq_true rfl, Nat.le_of_ble_eq_true rfl⟩ (Nat.le_of_ble_eq_true rfl) rfl (Q_0 hq) rfl ?_
        refine V_aload_n (pc := 46) X (th_da dtX1_send 27 rfl) rfl ?_
        refine V_iload_n (pc := 47) X (th_da dtX1_send 28 rfl) rfl ?_
        obtain ⟨u5, h5, e5, hf⟩ := th_bd_some hf
        refine V_callVi (pc := 48) (q := q) (As := [.int y3]) X (th_da dtX1_send 29 rfl) (mX1_isLostAt l q hq _ _ _ _ e5) wcd_X1_isLostAt wml_X1_145 wim_X1_isLostAt wse_X1_isLostAt win_X1_isLostAt hd_X1_isLostAt ⟨Nat.le_of_ble_eq_true rfl, Nat.le_of_ble_eq_true rfl⟩ (Nat.le_of_ble_eq_true rfl) rfl (Q_0 hq) rfl ?_
        refine V_if_eq (pc := 51) (tgt := 55) X (th_da dtX1_send 30 rfl) (by decide) (fun c6 => ?_) (fun c6 => ?_)
        · rw [if_pos c6] at hf
          refine V_iload_n (pc := 55) X (th_da dtX1_send 32 rfl) rfl ?_
          refine V_aload_n (pc := 56) X (th_da dtX1_send 33 rfl) rfl ?_
          refine V_iload_n (pc := 57) X (th_da dtX1_send 34 rfl) rfl ?_
          obtain ⟨u7, h7, e7, hf⟩ := th_bd_some hf
          refine V_callVi (pc := 58) (q := q) (As := [.int y3]) X (th_da dtX1_send 35 rfl) (mX1_offerOf l q hq _ _ _ _ e7) wcd_X1_offerOf wml_X1_117 wim_X1_offerOf wse_X1_offerOf win_X1_offerOf hd_X1_offerOf ⟨Nat.le_of_ble_eq_true rfl, Nat.le_of_ble_eq_true rfl⟩ (Nat.le_of_ble_eq_true rfl) rfl (Q_0 hq) rfl ?_
          refine V_mmin (pc := 61) X (th_da dtX1_send 36 rfl) wml_X1_101 wst_J9_min_7cf53 win_J9_min_7cf53 wcd_J9_min_7cf53 (Nat.le_of_ble_eq_true rfl) (Nat.le_of_ble_eq_true rfl) ?_
          refine V_istore_n (pc := 64) (ls2 := [.ref q, .int y1, .int (th_mn y2 u7), .int y3, .null]) X (th_da dtX1_send 37 rfl) (Nat.le_of_ble_eq_true rfl) rfl rfl ?_
          refine V_iinc (pc := 65) (v := y3 + 1) (ls2 := [.ref q, .int y1, .int (th_mn y2 u7), .int (y3 + 1), .null]) X (th_da dtX1_send 38 rfl) rfl rfl (Nat.le_of_ble_eq_true rfl) rfl rfl ?_
          refine V_goto (pc := 68) (tgt := 21) X (th_da dtX1_send 39 rfl) (by decide) ?_
          exact ih _ _ _ _ hf
        · rw [if_neg c6] at hf
          exact V_vretF (pc := 54) X (th_da dtX1_send 31 rfl) hf
    · rw [if_neg c1] at hf
      refine V_aload_n (pc := 71) X (th_da dtX1_send 40 rfl) rfl ?_
      refine V_iload_n (pc := 72) X (th_da dtX1_send 41 rfl) rfl ?_
      refine V_iload_n (pc := 73) X (th_da dtX1_send 42 rfl) rfl ?_
      obtain ⟨u8, h8, e8, hf⟩ := th_bd_some hf
      refine V_callVv (pc := 74) (q := q) (As := [.int y1, .int y2]) X (th_da dtX1_send 43 rfl) (mX1_tell l q hq _ _ _ _ _ e8) wcd_X1_tell wml_X1_148 wim_X1_tell wse_X1_tell win_X1_tell hd_X1_tell ⟨Nat.le_of_ble_eq_true rfl, Nat.le_of_ble_eq_true rfl⟩ (Nat.le_of_ble_eq_true rfl) rfl (Q_0 hq) rfl ?_
      refine V_ldc (pc := 77) (v := 1000000) X (th_da dtX1_send 44 rfl) wco_X1_50 ?_
      refine V_istore_n (pc := 79) (ls2 := [.ref q, .int y1, .int y2, .int 1000000, .null]) X (th_da dtX1_send 45 rfl) (Nat.le_of_ble_eq_true rfl) rfl rfl ?_
      refine V_bipush (pc := 80) (v := 9) X (th_da dtX1_send 46 rfl) (by decide) ?_
      refine V_istore (pc := 82) (ls2 := [.ref q, .int y1, .int y2, .int 1000000, .int 9]) X (th_da dtX1_send 47 rfl) (Nat.le_of_ble_eq_true rfl) rfl rfl ?_
      refine V_mask [true, true, false, true, true] (ls2 := [.ref q, .int y1, .null, .int 1000000, .int 9]) rfl ?_
      exact tX1_send_c84 X _ hq _ _ _ _ _ hf
set_option maxHeartbeats 4000000 in
set_option maxRecDepth 100000 in
theorem mX1_send (l : Launch) (q : Nat) (hq : isQ q) (x1 : Int32) (h : th_H) (rr : Unit) (hh : th_H) (hf : fX1_send q x1 h = some (rr, hh)) : th_MI l LC yX1_send cX1_send 5 none 4 95 [.ref q, .int x1] h none hh := by
  refine th_MI_of (ls := [.ref q, .int x1, .null, .null, .null]) RX1 rfl rfl rfl (Nat.le_of_ble_eq_true rfl) ?_
  intro p0 e s m args below meth c D cI cZ ad X
  unfold fX1_send at hf
  refine V_aload_n (pc := 0) X (th_da dtX1_send 0 rfl) rfl ?_
  refine V_dup (pc := 1) X (th_da dtX1_send 1 rfl) rfl ?_
  refine V_getI (pc := 2) (j := 9) X (th_da dtX1_send 2 rfl) wfl_X1_70 iX1 rfl (Q_0 hq) (Nat.le_of_ble_eq_true rfl) rfl ?_
  refine V_iconst (pc := 5) (v := 1) X (th_da dtX1_send 3 rfl) (by decide) ?_
  refine V_iadd (pc := 6) X (th_da dtX1_send 4 rfl) ?_
  obtain ⟨h1, e1, hf⟩ := th_st_some hf
  refine V_putI (pc := 7) (j := 9) (ty := .int) X (th_da dtX1_send 5 rfl) wfl_X1_70 iX1 rfl (Q_0 hq) (Nat.le_of_ble_eq_true rfl) rfl tyX1 tyX1_ok nmX1 rfl (tyX1_ok 9 (Nat.le_of_ble_eq_true rfl)) rfl rfl e1 ?_
  refine V_aload_n (pc := 10) X (th_da dtX1_send 6 rfl) rfl ?_
  refine V_getR (pc := 11) (j := 0) (t := (q + 1)) X (th_da dtX1_send 7 rfl) wfl_X1_12 iX1 rfl (Q_0 hq) (Nat.le_of_ble_eq_true rfl) rfl ?_
  refine V_iload_n (pc := 14) X (th_da dtX1_send 8 rfl) rfl ?_
  obtain ⟨u2, h2, e2, hf⟩ := th_bd_some hf
  refine V_callVi (pc := 15) (q := (q + 1)) (As := [.int x1]) X (th_da dtX1_send 9 rfl) (mX0_ownOf l (q + 1) (Q_p hq) _ _ _ _ e2) wcd_X0_ownOf wml_X1_138 wim_X0_ownOf wse_X0_ownOf win_X0_ownOf hd_X0_ownOf ⟨Nat.le_of_ble_eq_true rfl, Nat.le_of_ble_eq_true rfl⟩ (Nat.le_of_ble_eq_true rfl) rfl (P_0 (Q_p hq)) rfl ?_
  refine V_istore_n (pc := 18) (ls2 := [.ref q, .int x1, .int u2, .null, .null]) X (th_da dtX1_send 10 rfl) (Nat.le_of_ble_eq_true rfl) rfl rfl ?_
  refine V_iconst (pc := 19) (v := 0) X (th_da dtX1_send 11 rfl) (by decide) ?_
  refine V_istore_n (pc := 20) (ls2 := [.ref q, .int x1, .int u2, .int 0, .null]) X (th_da dtX1_send 12 rfl) (Nat.le_of_ble_eq_true rfl) rfl rfl ?_
  exact tX1_send_c21 X _ hq _ _ _ _ _ hf
end
def fX1_goRound_c7 (q : Nat) : Nat → Int32 → th_H → Option (Int32 × th_H)
  | 0, _, _ => none
  | n + 1, y1, h =>
    if (y1 < 20 : Prop) then
      th_bd (fX0_has (q + 1) y1 h) fun u2 h2 =>
      if (u2 = 0 : Prop) then
        fX1_goRound_c7 q n (y1 + 1) h2
      else
        th_bd (fX1_isHeld q y1 h2) fun u4 h4 =>
        if (u4 = 0 : Prop) then
          th_bd (fX1_send q y1 h4) fun _u6 h6 =>
          fX1_goRound_c7 q n (y1 + 1) h6
        else
          fX1_goRound_c7 q n (y1 + 1) h4
    else
      th_st (th_up h q 10 ((h.1 q 10) + 1)) fun h7 =>
      if ((h7.1 q 15) = 0 : Prop) then
        some (1, h7)
      else
        some (0, h7)
def fX1_goRound (q : Nat) (h : th_H) : Option (Int32 × th_H) :=
  th_st (th_up h q 15 0) fun h1 =>
  fX1_goRound_c7 q 1000 0 h1
def tbX1_goRound : List (Nat × Instr × Nat) := [(0, .aload_n 0, 1), (1, .iconst 0, 1), (2, .putfield 134, 3), (5, .iconst 0, 1), (6, .istore_n 1, 1), (7, .iload_n 1, 1), (8, .bipush 20, 2), (10, .if_icmp .ge 33, 3), (13, .aload_n 0, 1), (14, .getfield 12, 3), (17, .iload_n 1, 1), (18, .invokevirtual 121, 3), (21, .ifCond .eq 16, 3), (24, .aload_n 0, 1), (25, .iload_n 1, 1), (26, .invokevirtual 154, 3), (29, .ifCond .ne 8, 3), (32, .aload_n 0, 1), (33, .iload_n 1, 1), (34, .invokevirtual 157, 3), (37, .iinc 1 1, 3), (40, .goto (-33), 3), (43, .aload_n 0, 1), (44, .dup, 1), (45, .getfield 73, 3), (48, .iconst 1, 1), (49, .iadd, 1), (50, .putfield 73, 3), (53, .aload_n 0, 1), (54, .getfield 134, 3), (57, .ifCond .ne 7, 3), (60, .iconst 1, 1), (61, .goto 4, 3), (64, .iconst 0, 1), (65, .ireturn, 1)]
theorem dtX1_goRound : th_dec cX1_goRound tbX1_goRound = true := by decide +kernel
section
variable {p0 : Program} {l : Launch} {e : Env} {s : State} {m : MethodId} {args : Array Value} {below : List Frame} {meth : Method} {c : Code} {D : va_G} {cI cZ : ClassId} {ad : Nat → Nat} {rr : Int32} {hh : th_H}
set_option maxHeartbeats 4000000 in
set_option maxRecDepth 100000 in
theorem tX1_goRound_c7 (X : th_X p0 s m args meth c D cI cZ ad LC 2 RX1 cX1_goRound (some .boolean)) (q : Nat) (hq : isQ q) : ∀ (n : Nat) (y1 : Int32) (h : th_H), fX1_goRound_c7 q n y1 h = some (rr, hh) → th_V p0 l e { frames := 5, cells := 0, slots := 0, locals := 119 } s m args below meth c D cI cZ ad LC 2 (some (.int rr)) hh 7 [.ref q, .int y1] [] h := by
  intro n
  induction n with
  | zero => intro y1 h hf; cases hf
  | succ n ih =>
    intro y1 h hf
    rw [fX1_goRound_c7] at hf
    refine V_iload_n (pc := 7) X (th_da dtX1_goRound 5 rfl) rfl ?_
    refine V_bipush (pc := 8) (v := 20) X (th_da dtX1_goRound 6 rfl) (by decide) ?_
    refine V_icmp_ge (pc := 10) (tgt := 43) X (th_da dtX1_goRound 7 rfl) (by decide) (fun c1 => ?_) (fun c1 => ?_)
    · rw [if_pos c1] at hf
      refine V_aload_n (pc := 13) X (th_da dtX1_goRound 8 rfl) rfl ?_
      refine V_getR (pc := 14) (j := 0) (t := (q + 1)) X (th_da dtX1_goRound 9 rfl) wfl_X1_12 iX1 rfl (Q_0 hq) (Nat.le_of_ble_eq_true rfl) rfl ?_
      refine V_iload_n (pc := 17) X (th_da dtX1_goRound 10 rfl) rfl ?_
      obtain ⟨u2, h2, e2, hf⟩ := th_bd_some hf
      refine V_callVi (pc := 18) (q := (q + 1)) (As := [.int y1]) X (th_da dtX1_goRound 11 rfl) (mX0_has l (q + 1) (Q_p hq) _ _ _ _ e2) wcd_X0_has wml_X1_121 wim_X0_has wse_X0_has win_X0_has hd_X0_has ⟨Nat.le_of_ble_eq_true rfl, Nat.le_of_ble_eq_true rfl⟩ (Nat.le_of_ble_eq_true rfl) rfl (P_0 (Q_p hq)) rfl ?_
      refine V_if_eq (pc := 21) (tgt := 37) X (th_da dtX1_goRound 12 rfl) (by decide) (fun c3 => ?_) (fun c3 => ?_)
      · rw [if_pos c3] at hf
        refine V_iinc (pc := 37) (v := y1 + 1) (ls2 := [.ref q, .int (y1 + 1)]) X (th_da dtX1_goRound 20 rfl) rfl rfl (Nat.le_of_ble_eq_true rfl) rfl rfl ?_
        refine V_goto (pc := 40) (tgt := 7) X (th_da dtX1_goRound 21 rfl) (by decide) ?_
        exact ih _ _ hf
      · rw [if_neg c3] at hf
        refine V_aload_n (pc := 24) X (th_da dtX1_goRound 13 rfl) rfl ?_
        refine V_iload_n (pc := 25) X (th_da dtX1_goRound 14 rfl) rfl ?_
        obtain ⟨u4, h4, e4, hf⟩ := th_bd_some hf
        refine V_callVi (pc := 26) (q := q) (As := [.int y1]) X (th_da dtX1_goRound 15 rfl) (mX1_isHeld l q hq _ _ _ _ e4) wcd_X1_isHeld wml_X1_154 wim_X1_isHeld wse_X1_isHeld win_X1_isHeld hd_X1_isHeld ⟨Nat.le_of_ble_eq_true rfl, Nat.le_of_ble_eq_true rfl⟩ (Nat.le_of_ble_eq_true rfl) rfl (Q_0 hq) rfl ?_
        refine V_if_ne (pc := 29) (tgt := 37) X (th_da dtX1_goRound 16 rfl) (by decide) (fun c5 => ?_) (fun c5 => ?_)
        · rw [if_pos c5] at hf
          refine V_aload_n (pc := 32) X (th_da dtX1_goRound 17 rfl) rfl ?_
          refine V_iload_n (pc := 33) X (th_da dtX1_goRound 18 rfl) rfl ?_
          obtain ⟨u6, h6, e6, hf⟩ := th_bd_some hf
          refine V_callVv (pc := 34) (q := q) (As := [.int y1]) X (th_da dtX1_goRound 19 rfl) (mX1_send l q hq _ _ _ _ e6) wcd_X1_send wml_X1_157 wim_X1_send wse_X1_send win_X1_send hd_X1_send ⟨Nat.le_of_ble_eq_true rfl, Nat.le_of_ble_eq_true rfl⟩ (Nat.le_of_ble_eq_true rfl) rfl (Q_0 hq) rfl ?_
          refine V_iinc (pc := 37) (v := y1 + 1) (ls2 := [.ref q, .int (y1 + 1)]) X (th_da dtX1_goRound 20 rfl) rfl rfl (Nat.le_of_ble_eq_true rfl) rfl rfl ?_
          refine V_goto (pc := 40) (tgt := 7) X (th_da dtX1_goRound 21 rfl) (by decide) ?_
          exact ih _ _ hf
        · rw [if_neg c5] at hf
          refine V_iinc (pc := 37) (v := y1 + 1) (ls2 := [.ref q, .int (y1 + 1)]) X (th_da dtX1_goRound 20 rfl) rfl rfl (Nat.le_of_ble_eq_true rfl) rfl rfl ?_
          refine V_goto (pc := 40) (tgt := 7) X (th_da dtX1_goRound 21 rfl) (by decide) ?_
          exact ih _ _ hf
    · rw [if_neg c1] at hf
      refine V_aload_n (pc := 43) X (th_da dtX1_goRound 22 rfl) rfl ?_
      refine V_dup (pc := 44) X (th_da dtX1_goRound 23 rfl) rfl ?_
      refine V_getI (pc := 45) (j := 10) X (th_da dtX1_goRound 24 rfl) wfl_X1_73 iX1 rfl (Q_0 hq) (Nat.le_of_ble_eq_true rfl) rfl ?_
      refine V_iconst (pc := 48) (v := 1) X (th_da dtX1_goRound 25 rfl) (by decide) ?_
      refine V_iadd (pc := 49) X (th_da dtX1_goRound 26 rfl) ?_
      obtain ⟨h7, e7, hf⟩ := th_st_some hf
      refine V_putI (pc := 50) (j := 10) (ty := .int) X (th_da dtX1_goRound 27 rfl) wfl_X1_73 iX1 rfl (Q_0 hq) (Nat.le_of_ble_eq_true rfl) rfl tyX1 tyX1_ok nmX1 rfl (tyX1_ok 10 (Nat.le_of_ble_eq_true rfl)) rfl rfl e7 ?_
      refine V_aload_n (pc := 53) X (th_da dtX1_goRound 28 rfl) rfl ?_
      refine V_getI (pc := 54) (j := 15) X (th_da dtX1_goRound 29 rfl) wfl_X1_134 iX1 rfl (Q_0 hq) (Nat.le_of_ble_eq_true rfl) rfl ?_
      refine V_if_ne (pc := 57) (tgt := 64) X (th_da dtX1_goRound 30 rfl) (by decide) (fun c8 => ?_) (fun c8 => ?_)
      · rw [if_pos c8] at hf
        refine V_iconst (pc := 60) (v := 1) X (th_da dtX1_goRound 31 rfl) (by decide) ?_
        refine V_goto (pc := 61) (tgt := 65) X (th_da dtX1_goRound 32 rfl) (by decide) ?_
        exact V_zretF (pc := 65) X (th_da dtX1_goRound 34 rfl) (Or.inr rfl) hf
      · rw [if_neg c8] at hf
        refine V_iconst (pc := 64) (v := 0) X (th_da dtX1_goRound 33 rfl) (by decide) ?_
        exact V_zretF (pc := 65) X (th_da dtX1_goRound 34 rfl) (Or.inl rfl) hf
set_option maxHeartbeats 4000000 in
set_option maxRecDepth 100000 in
theorem mX1_goRound (l : Launch) (q : Nat) (hq : isQ q) (h : th_H) (rr : Int32) (hh : th_H) (hf : fX1_goRound q h = some (rr, hh)) : th_MI l LC yX1_goRound cX1_goRound 2 (some .boolean) 5 119 [.ref q] h (some (.int rr)) hh := by
  refine th_MI_of (ls := [.ref q, .null]) RX1 rfl rfl rfl (Nat.le_of_ble_eq_true rfl) ?_
  intro p0 e s m args below meth c D cI cZ ad X
  unfold fX1_goRound at hf
  refine V_aload_n (pc := 0) X (th_da dtX1_goRound 0 rfl) rfl ?_
  refine V_iconst (pc := 1) (v := 0) X (th_da dtX1_goRound 1 rfl) (by decide) ?_
  obtain ⟨h1, e1, hf⟩ := th_st_some hf
  refine V_putI (pc := 2) (j := 15) (ty := .boolean) X (th_da dtX1_goRound 2 rfl) wfl_X1_134 iX1 rfl (Q_0 hq) (Nat.le_of_ble_eq_true rfl) rfl tyX1 tyX1_ok nmX1 rfl (tyX1_ok 15 (Nat.le_of_ble_eq_true rfl)) rfl rfl e1 ?_
  refine V_iconst (pc := 5) (v := 0) X (th_da dtX1_goRound 3 rfl) (by decide) ?_
  refine V_istore_n (pc := 6) (ls2 := [.ref q, .int 0]) X (th_da dtX1_goRound 4 rfl) (Nat.le_of_ble_eq_true rfl) rfl rfl ?_
  exact tX1_goRound_c7 X _ hq _ _ _ hf
end
def fX1_forgetAll_c2 (q : Nat) : Nat → Int32 → th_H → Option (Unit × th_H)
  | 0, _, _ => none
  | n + 1, y1, h =>
    if (y1 < 20 : Prop) then
      th_bd (fX1_forgetFlow q y1 h) fun _u2 h2 =>
      fX1_forgetAll_c2 q n (y1 + 1) h2
    else
      some ((), h)
def fX1_forgetAll (q : Nat) (h : th_H) : Option (Unit × th_H) :=
  fX1_forgetAll_c2 q 1000 0 h
def tbX1_forgetAll : List (Nat × Instr × Nat) := [(0, .iconst 0, 1), (1, .istore_n 1, 1), (2, .iload_n 1, 1), (3, .bipush 20, 2), (5, .if_icmp .ge 14, 3), (8, .aload_n 0, 1), (9, .iload_n 1, 1), (10, .invokevirtual 87, 3), (13, .iinc 1 1, 3), (16, .goto (-14), 3), (19, .return_, 1)]
theorem dtX1_forgetAll : th_dec cX1_forgetAll tbX1_forgetAll = true := by decide +kernel
section
variable {p0 : Program} {l : Launch} {e : Env} {s : State} {m : MethodId} {args : Array Value} {below : List Frame} {meth : Method} {c : Code} {D : va_G} {cI cZ : ClassId} {ad : Nat → Nat} {rr : Unit} {hh : th_H}
set_option maxHeartbeats 4000000 in
set_option maxRecDepth 100000 in
theorem tX1_forgetAll_c2 (X : th_X p0 s m args meth c D cI cZ ad LC 2 RX1 cX1_forgetAll none) (q : Nat) (hq : isQ q) : ∀ (n : Nat) (y1 : Int32) (h : th_H), fX1_forgetAll_c2 q n y1 h = some (rr, hh) → th_V p0 l e { frames := 2, cells := 0, slots := 0, locals := 44 } s m args below meth c D cI cZ ad LC 2 none hh 2 [.ref q, .int y1] [] h := by
  intro n
  induction n with
  | zero => intro y1 h hf; cases hf
  | succ n ih =>
    intro y1 h hf
    rw [fX1_forgetAll_c2] at hf
    refine V_iload_n (pc := 2) X (th_da dtX1_forgetAll 2 rfl) rfl ?_
    refine V_bipush (pc := 3) (v := 20) X (th_da dtX1_forgetAll 3 rfl) (by decide) ?_
    refine V_icmp_ge (pc := 5) (tgt := 19) X (th_da dtX1_forgetAll 4 rfl) (by decide) (fun c1 => ?_) (fun c1 => ?_)
    · rw [if_pos c1] at hf
      refine V_aload_n (pc := 8) X (th_da dtX1_forgetAll 5 rfl) rfl ?_
      refine V_iload_n (pc := 9) X (th_da dtX1_forgetAll 6 rfl) rfl ?_
      obtain ⟨u2, h2, e2, hf⟩ := th_bd_some hf
      refine V_callVv (pc := 10) (q := q) (As := [.int y1]) X (th_da dtX1_forgetAll 7 rfl) (mX1_forgetFlow l q hq _ _ _ _ e2) wcd_X1_forgetFlow wml_X1_87 wim_X1_forgetFlow wse_X1_forgetFlow win_X1_forgetFlow hd_X1_forgetFlow ⟨Nat.le_of_ble_eq_true rfl, Nat.le_of_ble_eq_true rfl⟩ (Nat.le_of_ble_eq_true rfl) rfl (Q_0 hq) rfl ?_
      refine V_iinc (pc := 13) (v := y1 + 1) (ls2 := [.ref q, .int (y1 + 1)]) X (th_da dtX1_forgetAll 8 rfl) rfl rfl (Nat.le_of_ble_eq_true rfl) rfl rfl ?_
      refine V_goto (pc := 16) (tgt := 2) X (th_da dtX1_forgetAll 9 rfl) (by decide) ?_
      exact ih _ _ hf
    · rw [if_neg c1] at hf
      exact V_vretF (pc := 19) X (th_da dtX1_forgetAll 10 rfl) hf
set_option maxHeartbeats 4000000 in
set_option maxRecDepth 100000 in
theorem mX1_forgetAll (l : Launch) (q : Nat) (hq : isQ q) (h : th_H) (rr : Unit) (hh : th_H) (hf : fX1_forgetAll q h = some (rr, hh)) : th_MI l LC yX1_forgetAll cX1_forgetAll 2 none 2 44 [.ref q] h none hh := by
  refine th_MI_of (ls := [.ref q, .null]) RX1 rfl rfl rfl (Nat.le_of_ble_eq_true rfl) ?_
  intro p0 e s m args below meth c D cI cZ ad X
  unfold fX1_forgetAll at hf
  refine V_iconst (pc := 0) (v := 0) X (th_da dtX1_forgetAll 0 rfl) (by decide) ?_
  refine V_istore_n (pc := 1) (ls2 := [.ref q, .int 0]) X (th_da dtX1_forgetAll 1 rfl) (Nat.le_of_ble_eq_true rfl) rfl rfl ?_
  exact tX1_forgetAll_c2 X _ hq _ _ _ hf
end
def fX1_copy (q : Nat) (q2 : Nat) (h : th_H) : Option (Unit × th_H) :=
  th_bd (fX0_copy (q + 1) (q2 + 1) h) fun _u1 h1 =>
  th_st (th_cp h1 (q2 + 9) (q + 9) 200) fun h2 =>
  th_st (th_cp h2 (q2 + 10) (q + 10) 200) fun h3 =>
  th_st (th_cp h3 (q2 + 11) (q + 11) 20) fun h4 =>
  th_st (th_cp h4 (q2 + 12) (q + 12) 10) fun h5 =>
  th_st (th_cp h5 (q2 + 13) (q + 13) 20) fun h6 =>
  th_st (th_cp h6 (q2 + 14) (q + 14) 20) fun h7 =>
  th_st (th_cp h7 (q2 + 15) (q + 15) 20) fun h8 =>
  th_st (th_up h8 q 8 (h8.1 q2 8)) fun h9 =>
  th_st (th_up h9 q 9 (h9.1 q2 9)) fun h10 =>
  th_st (th_up h10 q 10 (h10.1 q2 10)) fun h11 =>
  th_st (th_up h11 q 11 (h11.1 q2 11)) fun h12 =>
  some ((), h12)
def tbX1_copy : List (Nat × Instr × Nat) := [(0, .aload_n 0, 1), (1, .getfield 12, 3), (4, .aload_n 1, 1), (5, .getfield 12, 3), (8, .invokevirtual 57, 3), (11, .aload_n 1, 1), (12, .getfield 18, 3), (15, .iconst 0, 1), (16, .aload_n 0, 1), (17, .getfield 18, 3), (20, .iconst 0, 1), (21, .sipush 200, 3), (24, .invokestatic 61, 3), (27, .aload_n 1, 1), (28, .getfield 22, 3), (31, .iconst 0, 1), (32, .aload_n 0, 1), (33, .getfield 22, 3), (36, .iconst 0, 1), (37, .sipush 200, 3), (40, .invokestatic 61, 3), (43, .aload_n 1, 1), (44, .getfield 25, 3), (47, .iconst 0, 1), (48, .aload_n 0, 1), (49, .getfield 25, 3), (52, .iconst 0, 1), (53, .bipush 20, 2), (55, .invokestatic 61, 3), (58, .aload_n 1, 1), (59, .getfield 28, 3), (62, .iconst 0, 1), (63, .aload_n 0, 1), (64, .getfield 28, 3), (67, .iconst 0, 1), (68, .bipush 10, 2), (70, .invokestatic 61, 3), (73, .aload_n 1, 1), (74, .getfield 31, 3), (77, .iconst 0, 1), (78, .aload_n 0, 1), (79, .getfield 31, 3), (82, .iconst 0, 1), (83, .bipush 20, 2), (85, .invokestatic 61, 3), (88, .aload_n 1, 1), (89, .getfield 34, 3), (92, .iconst 0, 1), (93, .aload_n 0, 1), (94, .getfield 34, 3), (97, .iconst 0, 1), (98, .bipush 20, 2), (100, .invokestatic 61, 3), (103, .aload_n 1, 1), (104, .getfield 37, 3), (107, .iconst 0, 1), (108, .aload_n 0, 1), (109, .getfield 37, 3), (112, .iconst 0, 1), (113, .bipush 20, 2), (115, .invokestatic 61, 3), (118, .aload_n 0, 1), (119, .aload_n 1, 1), (120, .getfield 67, 3), (123, .putfield 67, 3), (126, .aload_n 0, 1), (127, .aload_n 1, 1), (128, .getfield 70, 3), (131, .putfield 70, 3), (134, .aload_n 0, 1), (135, .aload_n 1, 1), (136, .getfield 73, 3), (139, .putfield 73, 3), (142, .aload_n 0, 1), (143, .aload_n 1, 1), (144, .getfield 76, 3), (147, .putfield 76, 3), (150, .return_, 1)]
theorem dtX1_copy : th_dec cX1_copy tbX1_copy = true := by decide +kernel
section
variable {p0 : Program} {l : Launch} {e : Env} {s : State} {m : MethodId} {args : Array Value} {below : List Frame} {meth : Method} {c : Code} {D : va_G} {cI cZ : ClassId} {ad : Nat → Nat} {rr : Unit} {hh : th_H}
set_option maxHeartbeats 4000000 in
set_option maxRecDepth 100000 in
theorem mX1_copy (l : Launch) (q : Nat) (q2 : Nat) (hq : isQ q) (hq2 : isQ q2) (h : th_H) (rr : Unit) (hh : th_H) (hf : fX1_copy q q2 h = some (rr, hh)) : th_MI l LC yX1_copy cX1_copy 2 none 2 47 [.ref q, .ref q2] h none hh := by
  refine th_MI_of (ls := [.ref q, .ref q2]) RX1 rfl rfl rfl (Nat.le_of_ble_eq_true rfl) ?_
  intro p0 e s m args below meth c D cI cZ ad X
  unfold fX1_copy at hf
  refine V_aload_n (pc := 0) X (th_da dtX1_copy 0 rfl) rfl ?_
  refine V_getR (pc := 1) (j := 0) (t := (q + 1)) X (th_da dtX1_copy 1 rfl) wfl_X1_12 iX1 rfl (Q_0 hq) (Nat.le_of_ble_eq_true rfl) rfl ?_
  refine V_aload_n (pc := 4) X (th_da dtX1_copy 2 rfl) rfl ?_
  refine V_getR (pc := 5) (j := 0) (t := (q2 + 1)) X (th_da dtX1_copy 3 rfl) wfl_X1_12 iX1 rfl (Q_0 hq2) (Nat.le_of_ble_eq_true rfl) rfl ?_
  obtain ⟨u1, h1, e1, hf⟩ := th_bd_some hf
  refine V_callVv (pc := 8) (q := (q + 1)) (As := [.ref (q2 + 1)]) X (th_da dtX1_copy 4 rfl) (mX0_copy l (q + 1) (q2 + 1) (Q_p hq) (Q_p hq2) _ _ _ e1) wcd_X0_copy wml_X1_57 wim_X0_copy wse_X0_copy win_X0_copy hd_X0_copy ⟨Nat.le_of_ble_eq_true rfl, Nat.le_of_ble_eq_true rfl⟩ (Nat.le_of_ble_eq_true rfl) rfl (P_0 (Q_p hq)) rfl ?_
  refine V_aload_n (pc := 11) X (th_da dtX1_copy 5 rfl) rfl ?_
  refine V_getR (pc := 12) (j := 1) (t := (q2 + 9)) X (th_da dtX1_copy 6 rfl) wfl_X1_18 iX1 rfl (Q_0 hq2) (Nat.le_of_ble_eq_true rfl) rfl ?_
  refine V_iconst (pc := 15) (v := 0) X (th_da dtX1_copy 7 rfl) (by decide) ?_
  refine V_aload_n (pc := 16) X (th_da dtX1_copy 8 rfl) rfl ?_
  refine V_getR (pc := 17) (j := 1) (t := (q + 9)) X (th_da dtX1_copy 9 rfl) wfl_X1_18 iX1 rfl (Q_0 hq) (Nat.le_of_ble_eq_true rfl) rfl ?_
  refine V_iconst (pc := 20) (v := 0) X (th_da dtX1_copy 10 rfl) (by decide) ?_
  refine V_sipush (pc := 21) (v := 200) X (th_da dtX1_copy 11 rfl) (by decide) ?_
  obtain ⟨h2, e2, hf⟩ := th_st_some hf
  refine V_copy (pc := 24) (N := 200) X (th_da dtX1_copy 12 rfl) wml_X1_61 wac_nat wac_st wac_in (Q_9 hq2) (Q_9 hq) (by decide) rfl (Nat.le_of_ble_eq_true rfl) (Nat.le_of_ble_eq_true rfl) (Nat.le_of_ble_eq_true rfl) (Nat.le_of_ble_eq_true rfl) e2 ?_
  refine V_aload_n (pc := 27) X (th_da dtX1_copy 13 rfl) rfl ?_
  refine V_getR (pc := 28) (j := 2) (t := (q2 + 10)) X (th_da dtX1_copy 14 rfl) wfl_X1_22 iX1 rfl (Q_0 hq2) (Nat.le_of_ble_eq_true rfl) rfl ?_
  refine V_iconst (pc := 31) (v := 0) X (th_da dtX1_copy 15 rfl) (by decide) ?_
  refine V_aload_n (pc := 32) X (th_da dtX1_copy 16 rfl) rfl ?_
  refine V_getR (pc := 33) (j := 2) (t := (q + 10)) X (th_da dtX1_copy 17 rfl) wfl_X1_22 iX1 rfl (Q_0 hq) (Nat.le_of_ble_eq_true rfl) rfl ?_
  refine V_iconst (pc := 36) (v := 0) X (th_da dtX1_copy 18 rfl) (by decide) ?_
  refine V_sipush (pc := 37) (v := 200) X (th_da dtX1_copy 19 rfl) (by decide) ?_
  obtain ⟨h3, e3, hf⟩ := th_st_some hf
  refine V_copy (pc := 40) (N := 200) X (th_da dtX1_copy 20 rfl) wml_X1_61 wac_nat wac_st wac_in (Q_10 hq2) (Q_10 hq) (by decide) rfl (Nat.le_of_ble_eq_true rfl) (Nat.le_of_ble_eq_true rfl) (Nat.le_of_ble_eq_true rfl) (Nat.le_of_ble_eq_true rfl) e3 ?_
  refine V_aload_n (pc := 43) X (th_da dtX1_copy 21 rfl) rfl ?_
  refine V_getR (pc := 44) (j := 3) (t := (q2 + 11)) X (th_da dtX1_copy 22 rfl) wfl_X1_25 iX1 rfl (Q_0 hq2) (Nat.le_of_ble_eq_true rfl) rfl ?_
  refine V_iconst (pc := 47) (v := 0) X (th_da dtX1_copy 23 rfl) (by decide) ?_
  refine V_aload_n (pc := 48) X (th_da dtX1_copy 24 rfl) rfl ?_
  refine V_getR (pc := 49) (j := 3) (t := (q + 11)) X (th_da dtX1_copy 25 rfl) wfl_X1_25 iX1 rfl (Q_0 hq) (Nat.le_of_ble_eq_true rfl) rfl ?_
  refine V_iconst (pc := 52) (v := 0) X (th_da dtX1_copy 26 rfl) (by decide) ?_
  refine V_bipush (pc := 53) (v := 20) X (th_da dtX1_copy 27 rfl) (by decide) ?_
  obtain ⟨h4, e4, hf⟩ := th_st_some hf
  refine V_copy (pc := 55) (N := 20) X (th_da dtX1_copy 28 rfl) wml_X1_61 wac_nat wac_st wac_in (Q_11 hq2) (Q_11 hq) (by decide) rfl (Nat.le_of_ble_eq_true rfl) (Nat.le_of_ble_eq_true rfl) (Nat.le_of_ble_eq_true rfl) (Nat.le_of_ble_eq_true rfl) e4 ?_
  refine V_aload_n (pc := 58) X (th_da dtX1_copy 29 rfl) rfl ?_
  refine V_getR (pc := 59) (j := 4) (t := (q2 + 12)) X (th_da dtX1_copy 30 rfl) wfl_X1_28 iX1 rfl (Q_0 hq2) (Nat.le_of_ble_eq_true rfl) rfl ?_
  refine V_iconst (pc := 62) (v := 0) X (th_da dtX1_copy 31 rfl) (by decide) ?_
  refine V_aload_n (pc := 63) X (th_da dtX1_copy 32 rfl) rfl ?_
  refine V_getR (pc := 64) (j := 4) (t := (q + 12)) X (th_da dtX1_copy 33 rfl) wfl_X1_28 iX1 rfl (Q_0 hq) (Nat.le_of_ble_eq_true rfl) rfl ?_
  refine V_iconst (pc := 67) (v := 0) X (th_da dtX1_copy 34 rfl) (by decide) ?_
  refine V_bipush (pc := 68) (v := 10) X (th_da dtX1_copy 35 rfl) (by decide) ?_
  obtain ⟨h5, e5, hf⟩ := th_st_some hf
  refine V_copy (pc := 70) (N := 10) X (th_da dtX1_copy 36 rfl) wml_X1_61 wac_nat wac_st wac_in (Q_12 hq2) (Q_12 hq) (by decide) rfl (Nat.le_of_ble_eq_true rfl) (Nat.le_of_ble_eq_true rfl) (Nat.le_of_ble_eq_true rfl) (Nat.le_of_ble_eq_true rfl) e5 ?_
  refine V_aload_n (pc := 73) X (th_da dtX1_copy 37 rfl) rfl ?_
  refine V_getR (pc := 74) (j := 5) (t := (q2 + 13)) X (th_da dtX1_copy 38 rfl) wfl_X1_31 iX1 rfl (Q_0 hq2) (Nat.le_of_ble_eq_true rfl) rfl ?_
  refine V_iconst (pc := 77) (v := 0) X (th_da dtX1_copy 39 rfl) (by decide) ?_
  refine V_aload_n (pc := 78) X (th_da dtX1_copy 40 rfl) rfl ?_
  refine V_getR (pc := 79) (j := 5) (t := (q + 13)) X (th_da dtX1_copy 41 rfl) wfl_X1_31 iX1 rfl (Q_0 hq) (Nat.le_of_ble_eq_true rfl) rfl ?_
  refine V_iconst (pc := 82) (v := 0) X (th_da dtX1_copy 42 rfl) (by decide) ?_
  refine V_bipush (pc := 83) (v := 20) X (th_da dtX1_copy 43 rfl) (by decide) ?_
  obtain ⟨h6, e6, hf⟩ := th_st_some hf
  refine V_copy (pc := 85) (N := 20) X (th_da dtX1_copy 44 rfl) wml_X1_61 wac_nat wac_st wac_in (Q_13 hq2) (Q_13 hq) (by decide) rfl (Nat.le_of_ble_eq_true rfl) (Nat.le_of_ble_eq_true rfl) (Nat.le_of_ble_eq_true rfl) (Nat.le_of_ble_eq_true rfl) e6 ?_
  refine V_aload_n (pc := 88) X (th_da dtX1_copy 45 rfl) rfl ?_
  refine V_getR (pc := 89) (j := 6) (t := (q2 + 14)) X (th_da dtX1_copy 46 rfl) wfl_X1_34 iX1 rfl (Q_0 hq2) (Nat.le_of_ble_eq_true rfl) rfl ?_
  refine V_iconst (pc := 92) (v := 0) X (th_da dtX1_copy 47 rfl) (by decide) ?_
  refine V_aload_n (pc := 93) X (th_da dtX1_copy 48 rfl) rfl ?_
  refine V_getR (pc := 94) (j := 6) (t := (q + 14)) X (th_da dtX1_copy 49 rfl) wfl_X1_34 iX1 rfl (Q_0 hq) (Nat.le_of_ble_eq_true rfl) rfl ?_
  refine V_iconst (pc := 97) (v := 0) X (th_da dtX1_copy 50 rfl) (by decide) ?_
  refine V_bipush (pc := 98) (v := 20) X (th_da dtX1_copy 51 rfl) (by decide) ?_
  obtain ⟨h7, e7, hf⟩ := th_st_some hf
  refine V_copy (pc := 100) (N := 20) X (th_da dtX1_copy 52 rfl) wml_X1_61 wac_nat wac_st wac_in (Q_14 hq2) (Q_14 hq) (by decide) rfl (Nat.le_of_ble_eq_true rfl) (Nat.le_of_ble_eq_true rfl) (Nat.le_of_ble_eq_true rfl) (Nat.le_of_ble_eq_true rfl) e7 ?_
  refine V_aload_n (pc := 103) X (th_da dtX1_copy 53 rfl) rfl ?_
  refine V_getR (pc := 104) (j := 7) (t := (q2 + 15)) X (th_da dtX1_copy 54 rfl) wfl_X1_37 iX1 rfl (Q_0 hq2) (Nat.le_of_ble_eq_true rfl) rfl ?_
  refine V_iconst (pc := 107) (v := 0) X (th_da dtX1_copy 55 rfl) (by decide) ?_
  refine V_aload_n (pc := 108) X (th_da dtX1_copy 56 rfl) rfl ?_
  refine V_getR (pc := 109) (j := 7) (t := (q + 15)) X (th_da dtX1_copy 57 rfl) wfl_X1_37 iX1 rfl (Q_0 hq) (Nat.le_of_ble_eq_true rfl) rfl ?_
  refine V_iconst (pc := 112) (v := 0) X (th_da dtX1_copy 58 rfl) (by decide) ?_
  refine V_bipush (pc := 113) (v := 20) X (th_da dtX1_copy 59 rfl) (by decide) ?_
  obtain ⟨h8, e8, hf⟩ := th_st_some hf
  refine V_copy (pc := 115) (N := 20) X (th_da dtX1_copy 60 rfl) wml_X1_61 wac_nat wac_st wac_in (Q_15 hq2) (Q_15 hq) (by decide) rfl (Nat.le_of_ble_eq_true rfl) (Nat.le_of_ble_eq_true rfl) (Nat.le_of_ble_eq_true rfl) (Nat.le_of_ble_eq_true rfl) e8 ?_
  refine V_aload_n (pc := 118) X (th_da dtX1_copy 61 rfl) rfl ?_
  refine V_aload_n (pc := 119) X (th_da dtX1_copy 62 rfl) rfl ?_
  refine V_getI (pc := 120) (j := 8) X (th_da dtX1_copy 63 rfl) wfl_X1_67 iX1 rfl (Q_0 hq2) (Nat.le_of_ble_eq_true rfl) rfl ?_
  obtain ⟨h9, e9, hf⟩ := th_st_some hf
  refine V_putI (pc := 123) (j := 8) (ty := .int) X (th_da dtX1_copy 64 rfl) wfl_X1_67 iX1 rfl (Q_0 hq) (Nat.le_of_ble_eq_true rfl) rfl tyX1 tyX1_ok nmX1 rfl (tyX1_ok 8 (Nat.le_of_ble_eq_true rfl)) rfl rfl e9 ?_
  refine V_aload_n (pc := 126) X (th_da dtX1_copy 65 rfl) rfl ?_
  refine V_aload_n (pc := 127) X (th_da dtX1_copy 66 rfl) rfl ?_
  refine V_getI (pc := 128) (j := 9) X (th_da dtX1_copy 67 rfl) wfl_X1_70 iX1 rfl (Q_0 hq2) (Nat.le_of_ble_eq_true rfl) rfl ?_
  obtain ⟨h10, e10, hf⟩ := th_st_some hf
  refine V_putI (pc := 131) (j := 9) (ty := .int) X (th_da dtX1_copy 68 rfl) wfl_X1_70 iX1 rfl (Q_0 hq) (Nat.le_of_ble_eq_true rfl) rfl tyX1 tyX1_ok nmX1 rfl (tyX1_ok 9 (Nat.le_of_ble_eq_true rfl)) rfl rfl e10 ?_
  refine V_aload_n (pc := 134) X (th_da dtX1_copy 69 rfl) rfl ?_
  refine V_aload_n (pc := 135) X (th_da dtX1_copy 70 rfl) rfl ?_
  refine V_getI (pc := 136) (j := 10) X (th_da dtX1_copy 71 rfl) wfl_X1_73 iX1 rfl (Q_0 hq2) (Nat.le_of_ble_eq_true rfl) rfl ?_
  obtain ⟨h11, e11, hf⟩ := th_st_some hf
  refine V_putI (pc := 139) (j := 10) (ty := .int) X (th_da dtX1_copy 72 rfl) wfl_X1_73 iX1 rfl (Q_0 hq) (Nat.le_of_ble_eq_true rfl) rfl tyX1 tyX1_ok nmX1 rfl (tyX1_ok 10 (Nat.le_of_ble_eq_true rfl)) rfl rfl e11 ?_
  refine V_aload_n (pc := 142) X (th_da dtX1_copy 73 rfl) rfl ?_
  refine V_aload_n (pc := 143) X (th_da dtX1_copy 74 rfl) rfl ?_
  refine V_getI (pc := 144) (j := 11) X (th_da dtX1_copy 75 rfl) wfl_X1_76 iX1 rfl (Q_0 hq2) (Nat.le_of_ble_eq_true rfl) rfl ?_
  obtain ⟨h12, e12, hf⟩ := th_st_some hf
  refine V_putI (pc := 147) (j := 11) (ty := .int) X (th_da dtX1_copy 76 rfl) wfl_X1_76 iX1 rfl (Q_0 hq) (Nat.le_of_ble_eq_true rfl) rfl tyX1 tyX1_ok nmX1 rfl (tyX1_ok 11 (Nat.le_of_ble_eq_true rfl)) rfl rfl e12 ?_
  exact V_vretF (pc := 150) X (th_da dtX1_copy 77 rfl) hf
end
def fX1_markBelow_c5 (q : Nat) : Nat → Int32 → Int32 → Int32 → Int32 → th_H → Option (Int32 × th_H)
  | 0, _, _, _, _, _ => none
  | n + 1, y1, y2, y3, y4, h =>
    if (y4 < 20 : Prop) then
      th_bd (fX1_elsewhere q y4 y1 h) fun u2 h2 =>
      th_rd h2 (q + 1 + 2) 10 y1 fun v3 =>
      if (((v3 >>> (y4 &&& 31)) &&& 1) = 0 : Prop) then
        fX1_markBelow_c5 q n y1 y2 y3 (y4 + 1) h2
      else
        if (u2 < y2 : Prop) then
          th_rd h2 (q + 17) 20 y4 fun v6 =>
          if (v6 = 1000000 : Prop) then
            th_wr h2 (q + 17) 20 y4 u2 fun h8 =>
            fX1_markBelow_c5 q n y1 y2 1 (y4 + 1) h8
          else
            fX1_markBelow_c5 q n y1 y2 y3 (y4 + 1) h2
        else
          fX1_markBelow_c5 q n y1 y2 y3 (y4 + 1) h2
    else
      th_gb y3 <|
      some (y3, h)
def fX1_markBelow (q : Nat) (x1 : Int32) (x2 : Int32) (h : th_H) : Option (Int32 × th_H) :=
  fX1_markBelow_c5 q 1000 x1 x2 0 0 h
def tbX1_markBelow : List (Nat × Instr × Nat) := [(0, .iconst 0, 1), (1, .istore_n 3, 1), (2, .iconst 0, 1), (3, .istore 4, 2), (5, .iload 4, 2), (7, .bipush 20, 2), (9, .if_icmp .ge 64, 3), (12, .aload_n 0, 1), (13, .iload 4, 2), (15, .iload_n 1, 1), (16, .invokevirtual 110, 3), (19, .istore 5, 2), (21, .aload_n 0, 1), (22, .getfield 12, 3), (25, .getfield 131, 3), (28, .iload_n 1, 1), (29, .iaload, 1), (30, .iload 4, 2), (32, .ishr, 1), (33, .iconst 1, 1), (34, .iand, 1), (35, .ifCond .eq 32, 3), (38, .iload 5, 2), (40, .iload_n 2, 1), (41, .if_icmp .ge 26, 3), (44, .aload_n 0, 1), (45, .getfield 47, 3), (48, .iload 4, 2), (50, .iaload, 1), (51, .ldc 50, 2), (53, .if_icmp .ne 14, 3), (56, .aload_n 0, 1), (57, .getfield 47, 3), (60, .iload 4, 2), (62, .iload 5, 2), (64, .iastore, 1), (65, .iconst 1, 1), (66, .istore_n 3, 1), (67, .iinc 4 1, 3), (70, .goto (-65), 3), (73, .iload_n 3, 1), (74, .ireturn, 1)]
theorem dtX1_markBelow : th_dec cX1_markBelow tbX1_markBelow = true := by decide +kernel
section
variable {p0 : Program} {l : Launch} {e : Env} {s : State} {m : MethodId} {args : Array Value} {below : List Frame} {meth : Method} {c : Code} {D : va_G} {cI cZ : ClassId} {ad : Nat → Nat} {rr : Int32} {hh : th_H}
set_option maxHeartbeats 4000000 in
set_option maxRecDepth 100000 in
theorem tX1_markBelow_c5 (X : th_X p0 s m args meth c D cI cZ ad LC 6 RX1 cX1_markBelow (some .boolean)) (q : Nat) (hq : isQ q) : ∀ (n : Nat) (y1 : Int32) (y2 : Int32) (y3 : Int32) (y4 : Int32) (h : th_H), fX1_markBelow_c5 q n y1 y2 y3 y4 h = some (rr, hh) → th_V p0 l e { frames := 2, cells := 0, slots := 0, locals := 43 } s m args below meth c D cI cZ ad LC 6 (some (.int rr)) hh 5 [.ref q, .int y1, .int y2, .int y3, .int y4, .null] [] h := by
  intro n
  induction n with
  | zero => intro y1 y2 y3 y4 h hf; cases hf
  | succ n ih =>
    intro y1 y2 y3 y4 h hf
    rw [fX1_markBelow_c5] at hf
    refine V_iload (pc := 5) X (th_da dtX1_markBelow 4 rfl) rfl ?_
    refine V_bipush (pc := 7) (v := 20) X (th_da dtX1_markBelow 5 rfl) (by decide) ?_
    refine V_icmp_ge (pc := 9) (tgt := 73) X (th_da dtX1_markBelow 6 rfl) (by decide) (fun c1 => ?_) (fun c1 => ?_)
    · rw [if_pos c1] at hf
      refine V_aload_n (pc := 12) X (th_da dtX1_markBelow 7 rfl) rfl ?_
      refine V_iload (pc := 13) X (th_da dtX1_markBelow 8 rfl) rfl ?_
      refine V_iload_n (pc := 15) X (th_da dtX1_markBelow 9 rfl) rfl ?_
      obtain ⟨u2, h2, e2, hf⟩ := th_bd_some hf
      refine V_callVi (pc := 16) (q := q) (As := [.int y4, .int y1]) X (th_da dtX1_markBelow 10 rfl) (mX1_elsewhere l q hq _ _ _ _ _ e2) wcd_X1_elsewhere wml_X1_110 wim_X1_elsewhere wse_X1_elsewhere win_X1_elsewhere hd_X1_elsewhere ⟨Nat.le_of_ble_eq_true rfl, Nat.le_of_ble_eq_true rfl⟩ (Nat.le_of_ble_eq_true rfl) rfl (Q_0 hq) rfl ?_
      refine V_istore (pc := 19) (ls2 := [.ref q, .int y1, .int y2, .int y3, .int y4, .int u2]) X (th_da dtX1_markBelow 11 rfl) (Nat.le_of_ble_eq_true rfl) rfl rfl ?_
      refine V_aload_n (pc := 21) X (th_da dtX1_markBelow 12 rfl) rfl ?_
      refine V_getR (pc := 22) (j := 0) (t := (q + 1)) X (th_da dtX1_markBelow 13 rfl) wfl_X1_12 iX1 rfl (Q_0 hq) (Nat.le_of_ble_eq_true rfl) rfl ?_
      refine V_getR (pc := 25) (j := 1) (t := (q + 1 + 2)) X (th_da dtX1_markBelow 14 rfl) wfl_X1_131 iX0 rfl (P_0 (Q_p hq)) (Nat.le_of_ble_eq_true rfl) rfl ?_
      refine V_iload_n (pc := 28) X (th_da dtX1_markBelow 15 rfl) rfl ?_
      obtain ⟨v3, e3, g3, hf⟩ := th_rd_some hf
      refine V_iald (pc := 29) X (th_da dtX1_markBelow 16 rfl) (P_2 (Q_p hq)) g3 e3 ?_
      refine V_iload (pc := 30) X (th_da dtX1_markBelow 17 rfl) rfl ?_
      refine V_ishr (pc := 32) X (th_da dtX1_markBelow 18 rfl) ?_
      refine V_iconst (pc := 33) (v := 1) X (th_da dtX1_markBelow 19 rfl) (by decide) ?_
      refine V_iand (pc := 34) X (th_da dtX1_markBelow 20 rfl) ?_
      refine V_if_eq (pc := 35) (tgt := 67) X (th_da dtX1_markBelow 21 rfl) (by decide) (fun c4 => ?_) (fun c4 => ?_)
      · rw [if_pos c4] at hf
        refine V_iinc (pc := 67) (v := y4 + 1) (ls2 := [.ref q, .int y1, .int y2, .int y3, .int (y4 + 1), .int u2]) X (th_da dtX1_markBelow 38 rfl) rfl rfl (Nat.le_of_ble_eq_true rfl) rfl rfl ?_
        refine V_goto (pc := 70) (tgt := 5) X (th_da dtX1_markBelow 39 rfl) (by decide) ?_
        refine V_mask [true, true, true, true, true, false] (ls2 := [.ref q, .int y1, .int y2, .int y3, .int (y4 + 1), .null]) rfl ?_
        exact ih _ _ _ _ _ hf
      · rw [if_neg c4] at hf
        refine V_iload (pc := 38) X (th_da dtX1_markBelow 22 rfl) rfl ?_
        refine V_iload_n (pc := 40) X (th_da dtX1_markBelow 23 rfl) rfl ?_
        refine V_icmp_ge (pc := 41) (tgt := 67) X (th_da dtX1_markBelow 24 rfl) (by decide) (fun c5 => ?_) (fun c5 => ?_)
        · rw [if_pos c5] at hf
          refine V_aload_n (pc := 44) X (th_da dtX1_markBelow 25 rfl) rfl ?_
          refine V_getR (pc := 45) (j := 14) (t := (q + 17)) X (th_da dtX1_markBelow 26 rfl) wfl_X1_47 iX1 rfl (Q_0 hq) (Nat.le_of_ble_eq_true rfl) rfl ?_
          refine V_iload (pc := 48) X (th_da dtX1_markBelow 27 rfl) rfl ?_
          obtain ⟨v6, e6, g6, hf⟩ := th_rd_some hf
          refine V_iald (pc := 50) X (th_da dtX1_markBelow 28 rfl) (Q_17 hq) g6 e6 ?_
          refine V_ldc (pc := 51) (v := 1000000) X (th_da dtX1_markBelow 29 rfl) wco_X1_50 ?_
          refine V_icmp_ne (pc := 53) (tgt := 67) X (th_da dtX1_markBelow 30 rfl) (by decide) (fun c7 => ?_) (fun c7 => ?_)
          · rw [if_pos c7] at hf
            refine V_aload_n (pc := 56) X (th_da dtX1_markBelow 31 rfl) rfl ?_
            refine V_getR (pc := 57) (j := 14) (t := (q + 17)) X (th_da dtX1_markBelow 32 rfl) wfl_X1_47 iX1 rfl (Q_0 hq) (Nat.le_of_ble_eq_true rfl) rfl ?_
            refine V_iload (pc := 60) X (th_da dtX1_markBelow 33 rfl) rfl ?_
            refine V_iload (pc := 62) X (th_da dtX1_markBelow 34 rfl) rfl ?_
            obtain ⟨h8, e8, g8, hf⟩ := th_wr_some hf
            refine V_iast (pc := 64) X (th_da dtX1_markBelow 35 rfl) (Q_17 hq) g8 e8 ?_
            refine V_iconst (pc := 65) (v := 1) X (th_da dtX1_markBelow 36 rfl) (by decide) ?_
            refine V_istore_n (pc := 66) (ls2 := [.ref q, .int y1, .int y2, .int 1, .int y4, .int u2]) X (th_da dtX1_markBelow 37 rfl) (Nat.le_of_ble_eq_true rfl) rfl rfl ?_
            refine V_iinc (pc := 67) (v := y4 + 1) (ls2 := [.ref q, .int y1, .int y2, .int 1, .int (y4 + 1), .int u2]) X (th_da dtX1_markBelow 38 rfl) rfl rfl (Nat.le_of_ble_eq_true rfl) rfl rfl ?_
            refine V_goto (pc := 70) (tgt := 5) X (th_da dtX1_markBelow 39 rfl) (by decide) ?_
            refine V_mask [true, true, true, true, true, false] (ls2 := [.ref q, .int y1, .int y2, .int 1, .int (y4 + 1), .null]) rfl ?_
            exact ih _ _ _ _ _ hf
          · rw [if_neg c7] at hf
            refine V_iinc (pc := 67) (v := y4 + 1) (ls2 := [.ref q, .int y1, .int y2, .int y3, .int (y4 + 1), .int u2]) X (th_da dtX1_markBelow 38 rfl) rfl rfl (Nat.le_of_ble_eq_true rfl) rfl rfl ?_
            refine V_goto (pc := 70) (tgt := 5) X (th_da dtX1_markBelow 39 rfl) (by decide) ?_
            refine V_mask [true, true, true, true, true, false] (ls2 := [.ref q, .int y1, .int y2, .int y3, .int (y4 + 1), .null]) rfl ?_
            exact ih _ _ _ _ _ hf
        · rw [if_neg c5] at hf
          refine V_iinc (pc := 67) (v := y4 + 1) (ls2 := [.ref q, .int y1, .int y2, .int y3, .int (y4 + 1), .int u2]) X (th_da dtX1_markBelow 38 rfl) rfl rfl (Nat.le_of_ble_eq_true rfl) rfl rfl ?_
          refine V_goto (pc := 70) (tgt := 5) X (th_da dtX1_markBelow 39 rfl) (by decide) ?_
          refine V_mask [true, true, true, true, true, false] (ls2 := [.ref q, .int y1, .int y2, .int y3, .int (y4 + 1), .null]) rfl ?_
          exact ih _ _ _ _ _ hf
    · rw [if_neg c1] at hf
      refine V_iload_n (pc := 73) X (th_da dtX1_markBelow 40 rfl) rfl ?_
      obtain ⟨g9, hf⟩ := th_gb_some hf
      exact V_zretF (pc := 74) X (th_da dtX1_markBelow 41 rfl) g9 hf
set_option maxHeartbeats 4000000 in
set_option maxRecDepth 100000 in
theorem mX1_markBelow (l : Launch) (q : Nat) (hq : isQ q) (x1 : Int32) (x2 : Int32) (h : th_H) (rr : Int32) (hh : th_H) (hf : fX1_markBelow q x1 x2 h = some (rr, hh)) : th_MI l LC yX1_markBelow cX1_markBelow 6 (some .boolean) 2 43 [.ref q, .int x1, .int x2] h (some (.int rr)) hh := by
  refine th_MI_of (ls := [.ref q, .int x1, .int x2, .null, .null, .null]) RX1 rfl rfl rfl (Nat.le_of_ble_eq_true rfl) ?_
  intro p0 e s m args below meth c D cI cZ ad X
  unfold fX1_markBelow at hf
  refine V_iconst (pc := 0) (v := 0) X (th_da dtX1_markBelow 0 rfl) (by decide) ?_
  refine V_istore_n (pc := 1) (ls2 := [.ref q, .int x1, .int x2, .int 0, .null, .null]) X (th_da dtX1_markBelow 1 rfl) (Nat.le_of_ble_eq_true rfl) rfl rfl ?_
  refine V_iconst (pc := 2) (v := 0) X (th_da dtX1_markBelow 2 rfl) (by decide) ?_
  refine V_istore (pc := 3) (ls2 := [.ref q, .int x1, .int x2, .int 0, .int 0, .null]) X (th_da dtX1_markBelow 3 rfl) (Nat.le_of_ble_eq_true rfl) rfl rfl ?_
  exact tX1_markBelow_c5 X _ hq _ _ _ _ _ _ hf
end
def fX1_findMarks_c14 (q : Nat) (a : Nat) : Nat → Int32 → Int32 → Int32 → th_H → Option (Int32 × th_H)
  | 0, _, _, _, _ => none
  | n + 1, y1, y3, y4, h =>
    if (y4 = 0 : Prop) then
      some (y3, h)
    else
      if (y3 < 21 : Prop) then
        th_bd (fX0_greatestLevel (q + 1) (q + 17) y1 h) fun u3 h3 =>
        th_wr h3 a 21 y3 u3 fun h4 =>
        th_bd (fX1_markBelow q y1 u3 h4) fun u5 h5 =>
        fX1_findMarks_c14 q a n y1 (y3 + 1) u5 h5
      else
        some (y3, h)
def fX1_findMarks (q : Nat) (a : Nat) (x1 : Int32) (h : th_H) : Option (Int32 × th_H) :=
  th_bd (fJ7_fill_53178 (q + 17) 20 1000000 h) fun _u1 h1 =>
  fX1_findMarks_c14 q a 1000 x1 0 1 h1
def tbX1_findMarks : List (Nat × Instr × Nat) := [(0, .aload_n 0, 1), (1, .getfield 47, 3), (4, .ldc 50, 2), (6, .invokestatic 51, 3), (9, .iconst 0, 1), (10, .istore_n 3, 1), (11, .iconst 1, 1), (12, .istore 4, 2), (14, .iload 4, 2), (16, .ifCond .eq 43, 3), (19, .iload_n 3, 1), (20, .aload_n 2, 1), (21, .arraylength, 1), (22, .if_icmp .ge 37, 3), (25, .aload_n 0, 1), (26, .getfield 12, 3), (29, .iload_n 1, 1), (30, .aload_n 0, 1), (31, .getfield 47, 3), (34, .invokevirtual 113, 3), (37, .istore 5, 2), (39, .aload_n 2, 1), (40, .iload_n 3, 1), (41, .iload 5, 2), (43, .iastore, 1), (44, .iinc 3 1, 3), (47, .aload_n 0, 1), (48, .iload_n 1, 1), (49, .iload 5, 2), (51, .invokevirtual 128, 3), (54, .istore 4, 2), (56, .goto (-42), 3), (59, .iload_n 3, 1), (60, .ireturn, 1)]
theorem dtX1_findMarks : th_dec cX1_findMarks tbX1_findMarks = true := by decide +kernel
section
variable {p0 : Program} {l : Launch} {e : Env} {s : State} {m : MethodId} {args : Array Value} {below : List Frame} {meth : Method} {c : Code} {D : va_G} {cI cZ : ClassId} {ad : Nat → Nat} {rr : Int32} {hh : th_H}
set_option maxHeartbeats 4000000 in
set_option maxRecDepth 100000 in
theorem tX1_findMarks_c14 (X : th_X p0 s m args meth c D cI cZ ad LC 6 RX1 cX1_findMarks (some .int)) (q : Nat) (a : Nat) (hq : isQ q) (ha : LC[a]? = some (.inl (21, false))) : ∀ (n : Nat) (y1 : Int32) (y3 : Int32) (y4 : Int32) (h : th_H), fX1_findMarks_c14 q a n y1 y3 y4 h = some (rr, hh) → th_V p0 l e { frames := 3, cells := 0, slots := 0, locals := 73 } s m args below meth c D cI cZ ad LC 6 (some (.int rr)) hh 14 [.ref q, .int y1, .ref a, .int y3, .int y4, .null] [] h := by
  intro n
  induction n with
  | zero => intro y1 y3 y4 h hf; cases hf
  | succ n ih =>
    intro y1 y3 y4 h hf
    rw [fX1_findMarks_c14] at hf
    refine V_iload (pc := 14) X (th_da dtX1_findMarks 8 rfl) rfl ?_
    refine V_if_eq (pc := 16) (tgt := 59) X (th_da dtX1_findMarks 9 rfl) (by decide) (fun c1 => ?_) (fun c1 => ?_)
    · rw [if_pos c1] at hf
      refine V_iload_n (pc := 59) X (th_da dtX1_findMarks 32 rfl) rfl ?_
      exact V_iretF (pc := 60) X (th_da dtX1_findMarks 33 rfl) hf
    · rw [if_neg c1] at hf
      refine V_iload_n (pc := 19) X (th_da dtX1_findMarks 10 rfl) rfl ?_
      refine V_aload_n (pc := 20) X (th_da dtX1_findMarks 11 rfl) rfl ?_
      refine V_alen (pc := 21) (v := 21) X (th_da dtX1_findMarks 12 rfl) ha (by decide) ?_
      refine V_icmp_ge (pc := 22) (tgt := 59) X (th_da dtX1_findMarks 13 rfl) (by decide) (fun c2 => ?_) (fun c2 => ?_)
      · rw [if_pos c2] at hf
        refine V_aload_n (pc := 25) X (th_da dtX1_findMarks 14 rfl) rfl ?_
        refine V_getR (pc := 26) (j := 0) (t := (q + 1)) X (th_da dtX1_findMarks 15 rfl) wfl_X1_12 iX1 rfl (Q_0 hq) (Nat.le_of_ble_eq_true rfl) rfl ?_
        refine V_iload_n (pc := 29) X (th_da dtX1_findMarks 16 rfl) rfl ?_
        refine V_aload_n (pc := 30) X (th_da dtX1_findMarks 17 rfl) rfl ?_
        refine V_getR (pc := 31) (j := 14) (t := (q + 17)) X (th_da dtX1_findMarks 18 rfl) wfl_X1_47 iX1 rfl (Q_0 hq) (Nat.le_of_ble_eq_true rfl) rfl ?_
        obtain ⟨u3, h3, e3, hf⟩ := th_bd_some hf
        refine V_callVi (pc := 34) (q := (q + 1)) (As := [.int y1, .ref (q + 17)]) X (th_da dtX1_findMarks 19 rfl) (mX0_greatestLevel l (q + 1) (q + 17) (Q_p hq) (Q_17 hq) _ _ _ _ e3) wcd_X0_greatestLevel wml_X1_113 wim_X0_greatestLevel wse_X0_greatestLevel win_X0_greatestLevel hd_X0_greatestLevel ⟨Nat.le_of_ble_eq_true rfl, Nat.le_of_ble_eq_true rfl⟩ (Nat.le_of_ble_eq_true rfl) rfl (P_0 (Q_p hq)) rfl ?_
        refine V_istore (pc := 37) (ls2 := [.ref q, .int y1, .ref a, .int y3, .int y4, .int u3]) X (th_da dtX1_findMarks 20 rfl) (Nat.le_of_ble_eq_true rfl) rfl rfl ?_
        refine V_aload_n (pc := 39) X (th_da dtX1_findMarks 21 rfl) rfl ?_
        refine V_iload_n (pc := 40) X (th_da dtX1_findMarks 22 rfl) rfl ?_
        refine V_iload (pc := 41) X (th_da dtX1_findMarks 23 rfl) rfl ?_
        obtain ⟨h4, e4, g4, hf⟩ := th_wr_some hf
        refine V_iast (pc := 43) X (th_da dtX1_findMarks 24 rfl) ha g4 e4 ?_
        refine V_iinc (pc := 44) (v := y3 + 1) (ls2 := [.ref q, .int y1, .ref a, .int (y3 + 1), .int y4, .int u3]) X (th_da dtX1_findMarks 25 rfl) rfl rfl (Nat.le_of_ble_eq_true rfl) rfl rfl ?_
        refine V_aload_n (pc := 47) X (th_da dtX1_findMarks 26 rfl) rfl ?_
        refine V_iload_n (pc := 48) X (th_da dtX1_findMarks 27 rfl) rfl ?_
        refine V_iload (pc := 49) X (th_da dtX1_findMarks 28 rfl) rfl ?_
        obtain ⟨u5, h5, e5, hf⟩ := th_bd_some hf
        refine V_callVi (pc := 51) (q := q) (As := [.int y1, .int u3]) X (th_da dtX1_findMarks 29 rfl) (mX1_markBelow l q hq _ _ _ _ _ e5) wcd_X1_markBelow wml_X1_128 wim_X1_markBelow wse_X1_markBelow win_X1_markBelow hd_X1_markBelow ⟨Nat.le_of_ble_eq_true rfl, Nat.le_of_ble_eq_true rfl⟩ (Nat.le_of_ble_eq_true rfl) rfl (Q_0 hq) rfl ?_
        refine V_istore (pc := 54) (ls2 := [.ref q, .int y1, .ref a, .int (y3 + 1), .int u5, .int u3]) X (th_da dtX1_findMarks 30 rfl) (Nat.le_of_ble_eq_true rfl) rfl rfl ?_
        refine V_goto (pc := 56) (tgt := 14) X (th_da dtX1_findMarks 31 rfl) (by decide) ?_
        refine V_mask [true, true, true, true, true, false] (ls2 := [.ref q, .int y1, .ref a, .int (y3 + 1), .int u5, .null]) rfl ?_
        exact ih _ _ _ _ hf
      · rw [if_neg c2] at hf
        refine V_iload_n (pc := 59) X (th_da dtX1_findMarks 32 rfl) rfl ?_
        exact V_iretF (pc := 60) X (th_da dtX1_findMarks 33 rfl) hf
set_option maxHeartbeats 4000000 in
set_option maxRecDepth 100000 in
theorem mX1_findMarks (l : Launch) (q : Nat) (a : Nat) (hq : isQ q) (ha : LC[a]? = some (.inl (21, false))) (x1 : Int32) (h : th_H) (rr : Int32) (hh : th_H) (hf : fX1_findMarks q a x1 h = some (rr, hh)) : th_MI l LC yX1_findMarks cX1_findMarks 6 (some .int) 3 73 [.ref q, .int x1, .ref a] h (some (.int rr)) hh := by
  refine th_MI_of (ls := [.ref q, .int x1, .ref a, .null, .null, .null]) RX1 rfl rfl rfl (Nat.le_of_ble_eq_true rfl) ?_
  intro p0 e s m args below meth c D cI cZ ad X
  unfold fX1_findMarks at hf
  refine V_aload_n (pc := 0) X (th_da dtX1_findMarks 0 rfl) rfl ?_
  refine V_getR (pc := 1) (j := 14) (t := (q + 17)) X (th_da dtX1_findMarks 1 rfl) wfl_X1_47 iX1 rfl (Q_0 hq) (Nat.le_of_ble_eq_true rfl) rfl ?_
  refine V_ldc (pc := 4) (v := 1000000) X (th_da dtX1_findMarks 2 rfl) wco_X1_50 ?_
  obtain ⟨u1, h1, e1, hf⟩ := th_bd_some hf
  refine V_callSv (pc := 6) (As := [.ref (q + 17), .int 1000000]) X (th_da dtX1_findMarks 3 rfl) (mJ7_fill_53178 l (q + 17) 20 (Q_17 hq) _ _ _ _ e1) wcd_J7_fill_53178 wml_X1_51 wst_J7_fill_53178 win_J7_fill_53178 hd_J7_fill_53178 ⟨Nat.le_of_ble_eq_true rfl, Nat.le_of_ble_eq_true rfl⟩ (Nat.le_of_ble_eq_true rfl) rfl ?_
  refine V_iconst (pc := 9) (v := 0) X (th_da dtX1_findMarks 4 rfl) (by decide) ?_
  refine V_istore_n (pc := 10) (ls2 := [.ref q, .int x1, .ref a, .int 0, .null, .null]) X (th_da dtX1_findMarks 5 rfl) (Nat.le_of_ble_eq_true rfl) rfl rfl ?_
  refine V_iconst (pc := 11) (v := 1) X (th_da dtX1_findMarks 6 rfl) (by decide) ?_
  refine V_istore (pc := 12) (ls2 := [.ref q, .int x1, .ref a, .int 0, .int 1, .null]) X (th_da dtX1_findMarks 7 rfl) (Nat.le_of_ble_eq_true rfl) rfl rfl ?_
  exact tX1_findMarks_c14 X _ _ hq ha _ _ _ _ _ hf
end
def fX1_isMarked (q : Nat) (x1 : Int32) (x2 : Int32) (h : th_H) : Option (Int32 × th_H) :=
  th_bd (fX1_elsewhere q x1 x2 h) fun u1 h1 =>
  th_bd (fX1_offerOf q x2 h1) fun u2 h2 =>
  if (u1 < u2 : Prop) then
    some (1, h2)
  else
    some (0, h2)
def tbX1_isMarked : List (Nat × Instr × Nat) := [(0, .aload_n 0, 1), (1, .iload_n 1, 1), (2, .iload_n 2, 1), (3, .invokevirtual 110, 3), (6, .aload_n 0, 1), (7, .iload_n 2, 1), (8, .invokevirtual 117, 3), (11, .if_icmp .ge 7, 3), (14, .iconst 1, 1), (15, .goto 4, 3), (18, .iconst 0, 1), (19, .ireturn, 1)]
theorem dtX1_isMarked : th_dec cX1_isMarked tbX1_isMarked = true := by decide +kernel
section
variable {p0 : Program} {l : Launch} {e : Env} {s : State} {m : MethodId} {args : Array Value} {below : List Frame} {meth : Method} {c : Code} {D : va_G} {cI cZ : ClassId} {ad : Nat → Nat} {rr : Int32} {hh : th_H}
set_option maxHeartbeats 4000000 in
set_option maxRecDepth 100000 in
theorem mX1_isMarked (l : Launch) (q : Nat) (hq : isQ q) (x1 : Int32) (x2 : Int32) (h : th_H) (rr : Int32) (hh : th_H) (hf : fX1_isMarked q x1 x2 h = some (rr, hh)) : th_MI l LC yX1_isMarked cX1_isMarked 3 (some .boolean) 4 95 [.ref q, .int x1, .int x2] h (some (.int rr)) hh := by
  refine th_MI_of (ls := [.ref q, .int x1, .int x2]) RX1 rfl rfl rfl (Nat.le_of_ble_eq_true rfl) ?_
  intro p0 e s m args below meth c D cI cZ ad X
  unfold fX1_isMarked at hf
  refine V_aload_n (pc := 0) X (th_da dtX1_isMarked 0 rfl) rfl ?_
  refine V_iload_n (pc := 1) X (th_da dtX1_isMarked 1 rfl) rfl ?_
  refine V_iload_n (pc := 2) X (th_da dtX1_isMarked 2 rfl) rfl ?_
  obtain ⟨u1, h1, e1, hf⟩ := th_bd_some hf
  refine V_callVi (pc := 3) (q := q) (As := [.int x1, .int x2]) X (th_da dtX1_isMarked 3 rfl) (mX1_elsewhere l q hq _ _ _ _ _ e1) wcd_X1_elsewhere wml_X1_110 wim_X1_elsewhere wse_X1_elsewhere win_X1_elsewhere hd_X1_elsewhere ⟨Nat.le_of_ble_eq_true rfl, Nat.le_of_ble_eq_true rfl⟩ (Nat.le_of_ble_eq_true rfl) rfl (Q_0 hq) rfl ?_
  refine V_aload_n (pc := 6) X (th_da dtX1_isMarked 4 rfl) rfl ?_
  refine V_iload_n (pc := 7) X (th_da dtX1_isMarked 5 rfl) rfl ?_
  obtain ⟨u2, h2, e2, hf⟩ := th_bd_some hf
  refine V_callVi (pc := 8) (q := q) (As := [.int x2]) X (th_da dtX1_isMarked 6 rfl) (mX1_offerOf l q hq _ _ _ _ e2) wcd_X1_offerOf wml_X1_117 wim_X1_offerOf wse_X1_offerOf win_X1_offerOf hd_X1_offerOf ⟨Nat.le_of_ble_eq_true rfl, Nat.le_of_ble_eq_true rfl⟩ (Nat.le_of_ble_eq_true rfl) rfl (Q_0 hq) rfl ?_
  refine V_icmp_ge (pc := 11) (tgt := 18) X (th_da dtX1_isMarked 7 rfl) (by decide) (fun c3 => ?_) (fun c3 => ?_)
  · rw [if_pos c3] at hf
    refine V_iconst (pc := 14) (v := 1) X (th_da dtX1_isMarked 8 rfl) (by decide) ?_
    refine V_goto (pc := 15) (tgt := 19) X (th_da dtX1_isMarked 9 rfl) (by decide) ?_
    exact V_zretF (pc := 19) X (th_da dtX1_isMarked 11 rfl) (Or.inr rfl) hf
  · rw [if_neg c3] at hf
    refine V_iconst (pc := 18) (v := 0) X (th_da dtX1_isMarked 10 rfl) (by decide) ?_
    exact V_zretF (pc := 19) X (th_da dtX1_isMarked 11 rfl) (Or.inl rfl) hf
end
def fX1_bookedAt_c4 (q : Nat) : Nat → Int32 → Int32 → Int32 → th_H → Option (Int32 × th_H)
  | 0, _, _, _, _ => none
  | n + 1, y1, y2, y3, h =>
    if (y3 < 20 : Prop) then
      th_rd h (q + 1 + 2) 10 y1 fun v2 =>
      if (((v2 >>> (y3 &&& 31)) &&& 1) = 0 : Prop) then
        fX1_bookedAt_c4 q n y1 y2 (y3 + 1) h
      else
        th_rd h (q + 11) 20 y3 fun v4 =>
        th_bd (fX0_rateBy (q + 1) y3 v4 h) fun u5 h5 =>
        fX1_bookedAt_c4 q n y1 (y2 + u5) (y3 + 1) h5
    else
      some (y2, h)
def fX1_bookedAt (q : Nat) (x1 : Int32) (h : th_H) : Option (Int32 × th_H) :=
  fX1_bookedAt_c4 q 1000 x1 0 0 h
def tbX1_bookedAt : List (Nat × Instr × Nat) := [(0, .iconst 0, 1), (1, .istore_n 2, 1), (2, .iconst 0, 1), (3, .istore_n 3, 1), (4, .iload_n 3, 1), (5, .bipush 20, 2), (7, .if_icmp .ge 42, 3), (10, .aload_n 0, 1), (11, .getfield 12, 3), (14, .getfield 131, 3), (17, .iload_n 1, 1), (18, .iaload, 1), (19, .iload_n 3, 1), (20, .ishr, 1), (21, .iconst 1, 1), (22, .iand, 1), (23, .ifCond .eq 20, 3), (26, .iload_n 2, 1), (27, .aload_n 0, 1), (28, .getfield 12, 3), (31, .iload_n 3, 1), (32, .aload_n 0, 1), (33, .getfield 25, 3), (36, .iload_n 3, 1), (37, .iaload, 1), (38, .invokevirtual 175, 3), (41, .iadd, 1), (42, .istore_n 2, 1), (43, .iinc 3 1, 3), (46, .goto (-42), 3), (49, .iload_n 2, 1), (50, .ireturn, 1)]
theorem dtX1_bookedAt : th_dec cX1_bookedAt tbX1_bookedAt = true := by decide +kernel
section
variable {p0 : Program} {l : Launch} {e : Env} {s : State} {m : MethodId} {args : Array Value} {below : List Frame} {meth : Method} {c : Code} {D : va_G} {cI cZ : ClassId} {ad : Nat → Nat} {rr : Int32} {hh : th_H}
set_option maxHeartbeats 4000000 in
set_option maxRecDepth 100000 in
theorem tX1_bookedAt_c4 (X : th_X p0 s m args meth c D cI cZ ad LC 4 RX1 cX1_bookedAt (some .int)) (q : Nat) (hq : isQ q) : ∀ (n : Nat) (y1 : Int32) (y2 : Int32) (y3 : Int32) (h : th_H), fX1_bookedAt_c4 q n y1 y2 y3 h = some (rr, hh) → th_V p0 l e { frames := 2, cells := 0, slots := 0, locals := 43 } s m args below meth c D cI cZ ad LC 4 (some (.int rr)) hh 4 [.ref q, .int y1, .int y2, .int y3] [] h := by
  intro n
  induction n with
  | zero => intro y1 y2 y3 h hf; cases hf
  | succ n ih =>
    intro y1 y2 y3 h hf
    rw [fX1_bookedAt_c4] at hf
    refine V_iload_n (pc := 4) X (th_da dtX1_bookedAt 4 rfl) rfl ?_
    refine V_bipush (pc := 5) (v := 20) X (th_da dtX1_bookedAt 5 rfl) (by decide) ?_
    refine V_icmp_ge (pc := 7) (tgt := 49) X (th_da dtX1_bookedAt 6 rfl) (by decide) (fun c1 => ?_) (fun c1 => ?_)
    · rw [if_pos c1] at hf
      refine V_aload_n (pc := 10) X (th_da dtX1_bookedAt 7 rfl) rfl ?_
      refine V_getR (pc := 11) (j := 0) (t := (q + 1)) X (th_da dtX1_bookedAt 8 rfl) wfl_X1_12 iX1 rfl (Q_0 hq) (Nat.le_of_ble_eq_true rfl) rfl ?_
      refine V_getR (pc := 14) (j := 1) (t := (q + 1 + 2)) X (th_da dtX1_bookedAt 9 rfl) wfl_X1_131 iX0 rfl (P_0 (Q_p hq)) (Nat.le_of_ble_eq_true rfl) rfl ?_
      refine V_iload_n (pc := 17) X (th_da dtX1_bookedAt 10 rfl) rfl ?_
      obtain ⟨v2, e2, g2, hf⟩ := th_rd_some hf
      refine V_iald (pc := 18) X (th_da dtX1_bookedAt 11 rfl) (P_2 (Q_p hq)) g2 e2 ?_
      refine V_iload_n (pc := 19) X (th_da dtX1_bookedAt 12 rfl) rfl ?_
      refine V_ishr (pc := 20) X (th_da dtX1_bookedAt 13 rfl) ?_
      refine V_iconst (pc := 21) (v := 1) X (th_da dtX1_bookedAt 14 rfl) (by decide) ?_
      refine V_iand (pc := 22) X (th_da dtX1_bookedAt 15 rfl) ?_
      refine V_if_eq (pc := 23) (tgt := 43) X (th_da dtX1_bookedAt 16 rfl) (by decide) (fun c3 => ?_) (fun c3 => ?_)
      · rw [if_pos c3] at hf
        refine V_iinc (pc := 43) (v := y3 + 1) (ls2 := [.ref q, .int y1, .int y2, .int (y3 + 1)]) X (th_da dtX1_bookedAt 28 rfl) rfl rfl (Nat.le_of_ble_eq_true rfl) rfl rfl ?_
        refine V_goto (pc := 46) (tgt := 4) X (th_da dtX1_bookedAt 29 rfl) (by decide) ?_
        exact ih _ _ _ _ hf
      · rw [if_neg c3] at hf
        refine V_iload_n (pc := 26) X (th_da dtX1_bookedAt 17 rfl) rfl ?_
        refine V_aload_n (pc := 27) X (th_da dtX1_bookedAt 18 rfl) rfl ?_
        refine V_getR (pc := 28) (j := 0) (t := (q + 1)) X (th_da dtX1_bookedAt 19 rfl) wfl_X1_12 iX1 rfl (Q_0 hq) (Nat.le_of_ble_eq_true rfl) rfl ?_
        refine V_iload_n (pc := 31) X (th_da dtX1_bookedAt 20 rfl) rfl ?_
        refine V_aload_n (pc := 32) X (th_da dtX1_bookedAt 21 rfl) rfl ?_
        refine V_getR (pc := 33) (j := 3) (t := (q + 11)) X (th_da dtX1_bookedAt 22 rfl) wfl_X1_25 iX1 rfl (Q_0 hq) (Nat.le_of_ble_eq_true rfl) rfl ?_
        refine V_iload_n (pc := 36) X (th_da dtX1_bookedAt 23 rfl) rfl ?_
        obtain ⟨v4, e4, g4, hf⟩ := th_rd_some hf
        refine V_iald (pc := 37) X (th_da dtX1_bookedAt 24 rfl) (Q_11 hq) g4 e4 ?_
        obtain ⟨u5, h5, e5, hf⟩ := th_bd_some hf
        refine V_callVi (pc := 38) (q := (q + 1)) (As := [.int y3, .int v4]) X (th_da dtX1_bookedAt 25 rfl) (mX0_rateBy l (q + 1) (Q_p hq) _ _ _ _ _ e5) wcd_X0_rateBy wml_X1_175 wim_X0_rateBy wse_X0_rateBy win_X0_rateBy hd_X0_rateBy ⟨Nat.le_of_ble_eq_true rfl, Nat.le_of_ble_eq_true rfl⟩ (Nat.le_of_ble_eq_true rfl) rfl (P_0 (Q_p hq)) rfl ?_
        refine V_iadd (pc := 41) X (th_da dtX1_bookedAt 26 rfl) ?_
        refine V_istore_n (pc := 42) (ls2 := [.ref q, .int y1, .int (y2 + u5), .int y3]) X (th_da dtX1_bookedAt 27 rfl) (Nat.le_of_ble_eq_true rfl) rfl rfl ?_
        refine V_iinc (pc := 43) (v := y3 + 1) (ls2 := [.ref q, .int y1, .int (y2 + u5), .int (y3 + 1)]) X (th_da dtX1_bookedAt 28 rfl) rfl rfl (Nat.le_of_ble_eq_true rfl) rfl rfl ?_
        refine V_goto (pc := 46) (tgt := 4) X (th_da dtX1_bookedAt 29 rfl) (by decide) ?_
        exact ih _ _ _ _ hf
    · rw [if_neg c1] at hf
      refine V_iload_n (pc := 49) X (th_da dtX1_bookedAt 30 rfl) rfl ?_
      exact V_iretF (pc := 50) X (th_da dtX1_bookedAt 31 rfl) hf
set_option maxHeartbeats 4000000 in
set_option maxRecDepth 100000 in
theorem mX1_bookedAt (l : Launch) (q : Nat) (hq : isQ q) (x1 : Int32) (h : th_H) (rr : Int32) (hh : th_H) (hf : fX1_bookedAt q x1 h = some (rr, hh)) : th_MI l LC yX1_bookedAt cX1_bookedAt 4 (some .int) 2 43 [.ref q, .int x1] h (some (.int rr)) hh := by
  refine th_MI_of (ls := [.ref q, .int x1, .null, .null]) RX1 rfl rfl rfl (Nat.le_of_ble_eq_true rfl) ?_
  intro p0 e s m args below meth c D cI cZ ad X
  unfold fX1_bookedAt at hf
  refine V_iconst (pc := 0) (v := 0) X (th_da dtX1_bookedAt 0 rfl) (by decide) ?_
  refine V_istore_n (pc := 1) (ls2 := [.ref q, .int x1, .int 0, .null]) X (th_da dtX1_bookedAt 1 rfl) (Nat.le_of_ble_eq_true rfl) rfl rfl ?_
  refine V_iconst (pc := 2) (v := 0) X (th_da dtX1_bookedAt 2 rfl) (by decide) ?_
  refine V_istore_n (pc := 3) (ls2 := [.ref q, .int x1, .int 0, .int 0]) X (th_da dtX1_bookedAt 3 rfl) (Nat.le_of_ble_eq_true rfl) rfl rfl ?_
  exact tX1_bookedAt_c4 X _ hq _ _ _ _ _ hf
end
def fX1_overbooked_c4 (q : Nat) : Nat → Int32 → Int32 → th_H → Option (Int32 × th_H)
  | 0, _, _, _ => none
  | n + 1, y1, y2, h =>
    if (y2 < 10 : Prop) then
      th_bd (fX1_bookedAt q y2 h) fun u2 h2 =>
      th_rd h2 (q + 1 + 1) 10 y2 fun v3 =>
      if (v3 < u2 : Prop) then
        fX1_overbooked_c4 q n (y1 ||| ((1 : Int32) <<< (y2 &&& 31))) (y2 + 1) h2
      else
        fX1_overbooked_c4 q n (y1 ||| 0) (y2 + 1) h2
    else
      some (y1, h)
def fX1_overbooked (q : Nat) (h : th_H) : Option (Int32 × th_H) :=
  fX1_overbooked_c4 q 1000 0 0 h
def tbX1_overbooked : List (Nat × Instr × Nat) := [(0, .iconst 0, 1), (1, .istore_n 1, 1), (2, .iconst 0, 1), (3, .istore_n 2, 1), (4, .iload_n 2, 1), (5, .bipush 10, 2), (7, .if_icmp .ge 36, 3), (10, .iload_n 1, 1), (11, .aload_n 0, 1), (12, .iload_n 2, 1), (13, .invokevirtual 178, 3), (16, .aload_n 0, 1), (17, .getfield 12, 3), (20, .getfield 181, 3), (23, .iload_n 2, 1), (24, .iaload, 1), (25, .if_icmp .le 9, 3), (28, .iconst 1, 1), (29, .iload_n 2, 1), (30, .ishl, 1), (31, .goto 4, 3), (34, .iconst 0, 1), (35, .ior, 1), (36, .istore_n 1, 1), (37, .iinc 2 1, 3), (40, .goto (-36), 3), (43, .iload_n 1, 1), (44, .ireturn, 1)]
theorem dtX1_overbooked : th_dec cX1_overbooked tbX1_overbooked = true := by decide +kernel
section
variable {p0 : Program} {l : Launch} {e : Env} {s : State} {m : MethodId} {args : Array Value} {below : List Frame} {meth : Method} {c : Code} {D : va_G} {cI cZ : ClassId} {ad : Nat → Nat} {rr : Int32} {hh : th_H}
set_option maxHeartbeats 4000000 in
set_option maxRecDepth 100000 in
theorem tX1_overbooked_c4 (X : th_X p0 s m args meth c D cI cZ ad LC 3 RX1 cX1_overbooked (some .int)) (q : Nat) (hq : isQ q) : ∀ (n : Nat) (y1 : Int32) (y2 : Int32) (h : th_H), fX1_overbooked_c4 q n y1 y2 h = some (rr, hh) → th_V p0 l e { frames := 3, cells := 0, slots := 0, locals := 66 } s m args below meth c D cI cZ ad LC 3 (some (.int rr)) hh 4 [.ref q, .int y1, .int y2] [] h := by
  intro n
  induction n with
  | zero => intro y1 y2 h hf; cases hf
  | succ n ih =>
    intro y1 y2 h hf
    rw [fX1_overbooked_c4] at hf
    refine V_iload_n (pc := 4) X (th_da dtX1_overbooked 4 rfl) rfl ?_
    refine V_bipush (pc := 5) (v := 10) X (th_da dtX1_overbooked 5 rfl) (by decide) ?_
    refine V_icmp_ge (pc := 7) (tgt := 43) X (th_da dtX1_overbooked 6 rfl) (by decide) (fun c1 => ?_) (fun c1 => ?_)
    · rw [if_pos c1] at hf
      refine V_iload_n (pc := 10) X (th_da dtX1_overbooked 7 rfl) rfl ?_
      refine V_aload_n (pc := 11) X (th_da dtX1_overbooked 8 rfl) rfl ?_
      refine V_iload_n (pc := 12) X (th_da dtX1_overbooked 9 rfl) rfl ?_
      obtain ⟨u2, h2, e2, hf⟩ := th_bd_some hf
      refine V_callVi (pc := 13) (q := q) (As := [.int y2]) X (th_da dtX1_overbooked 10 rfl) (mX1_bookedAt l q hq _ _ _ _ e2) wcd_X1_bookedAt wml_X1_178 wim_X1_bookedAt wse_X1_bookedAt win_X1_bookedAt hd_X1_bookedAt ⟨Nat.le_of_ble_eq_true rfl, Nat.le_of_ble_eq_true rfl⟩ (Nat.le_of_ble_eq_true rfl) rfl (Q_0 hq) rfl ?_
      refine V_aload_n (pc := 16) X (th_da dtX1_overbooked 11 rfl) rfl ?_
      refine V_getR (pc := 17) (j := 0) (t := (q + 1)) X (th_da dtX1_overbooked 12 rfl) wfl_X1_12 iX1 rfl (Q_0 hq) (Nat.le_of_ble_eq_true rfl) rfl ?_
      refine V_getR (pc := 20) (j := 0) (t := (q + 1 + 1)) X (th_da dtX1_overbooked 13 rfl) wfl_X1_181 iX0 rfl (P_0 (Q_p hq)) (Nat.le_of_ble_eq_true rfl) rfl ?_
      refine V_iload_n (pc := 23) X (th_da dtX1_overbooked 14 rfl) rfl ?_
      obtain ⟨v3, e3, g3, hf⟩ := th_rd_some hf
      refine V_iald (pc := 24) X (th_da dtX1_overbooked 15 rfl) (P_1 (Q_p hq)) g3 e3 ?_
      refine V_icmp_le (pc := 25) (tgt := 34) X (th_da dtX1_overbooked 16 rfl) (by decide) (fun c4 => ?_) (fun c4 => ?_)
      · rw [if_pos c4] at hf
        refine V_iconst (pc := 28) (v := 1) X (th_da dtX1_overbooked 17 rfl) (by decide) ?_
        refine V_iload_n (pc := 29) X (th_da dtX1_overbooked 18 rfl) rfl ?_
        refine V_ishl (pc := 30) X (th_da dtX1_overbooked 19 rfl) ?_
        refine V_goto (pc := 31) (tgt := 35) X (th_da dtX1_overbooked 20 rfl) (by decide) ?_
        refine V_ior (pc := 35) X (th_da dtX1_overbooked 22 rfl) ?_
        refine V_istore_n (pc := 36) (ls2 := [.ref q, .int (y1 ||| ((1 : Int32) <<< (y2 &&& 31))), .int y2]) X (th_da dtX1_overbooked 23 rfl) (Nat.le_of_ble_eq_true rfl) rfl rfl ?_
        refine V_iinc (pc := 37) (v := y2 + 1) (ls2 := [.ref q, .int (y1 ||| ((1 : Int32) <<< (y2 &&& 31))), .int (y2 + 1)]) X (th_da dtX1_overbooked 24 rfl) rfl rfl (Nat.le_of_ble_eq_true rfl) rfl rfl ?_
        refine V_goto (pc := 40) (tgt := 4) X (th_da dtX1_overbooked 25 rfl) (by decide) ?_
        exact ih _ _ _ hf
      · rw [if_neg c4] at hf
        refine V_iconst (pc := 34) (v := 0) X (th_da dtX1_overbooked 21 rfl) (by decide) ?_
        refine V_ior (pc := 35) X (th_da dtX1_overbooked 22 rfl) ?_
        refine V_istore_n (pc := 36) (ls2 := [.ref q, .int (y1 ||| 0), .int y2]) X (th_da dtX1_overbooked 23 rfl) (Nat.le_of_ble_eq_true rfl) rfl rfl ?_
        refine V_iinc (pc := 37) (v := y2 + 1) (ls2 := [.ref q, .int (y1 ||| 0), .int (y2 + 1)]) X (th_da dtX1_overbooked 24 rfl) rfl rfl (Nat.le_of_ble_eq_true rfl) rfl rfl ?_
        refine V_goto (pc := 40) (tgt := 4) X (th_da dtX1_overbooked 25 rfl) (by decide) ?_
        exact ih _ _ _ hf
    · rw [if_neg c1] at hf
      refine V_iload_n (pc := 43) X (th_da dtX1_overbooked 26 rfl) rfl ?_
      exact V_iretF (pc := 44) X (th_da dtX1_overbooked 27 rfl) hf
set_option maxHeartbeats 4000000 in
set_option maxRecDepth 100000 in
theorem mX1_overbooked (l : Launch) (q : Nat) (hq : isQ q) (h : th_H) (rr : Int32) (hh : th_H) (hf : fX1_overbooked q h = some (rr, hh)) : th_MI l LC yX1_overbooked cX1_overbooked 3 (some .int) 3 66 [.ref q] h (some (.int rr)) hh := by
  refine th_MI_of (ls := [.ref q, .null, .null]) RX1 rfl rfl rfl (Nat.le_of_ble_eq_true rfl) ?_
  intro p0 e s m args below meth c D cI cZ ad X
  unfold fX1_overbooked at hf
  refine V_iconst (pc := 0) (v := 0) X (th_da dtX1_overbooked 0 rfl) (by decide) ?_
  refine V_istore_n (pc := 1) (ls2 := [.ref q, .int 0, .null]) X (th_da dtX1_overbooked 1 rfl) (Nat.le_of_ble_eq_true rfl) rfl rfl ?_
  refine V_iconst (pc := 2) (v := 0) X (th_da dtX1_overbooked 2 rfl) (by decide) ?_
  refine V_istore_n (pc := 3) (ls2 := [.ref q, .int 0, .int 0]) X (th_da dtX1_overbooked 3 rfl) (Nat.le_of_ble_eq_true rfl) rfl rfl ?_
  exact tX1_overbooked_c4 X _ hq _ _ _ _ hf
end
def fX1_markCount_c12 (q : Nat) (k4 : Int32 → Int32 → th_H → Option (Int32 × th_H)) : Nat → Int32 → Int32 → Int32 → th_H → Option (Int32 × th_H)
  | 0, _, _, _, _ => none
  | n + 1, y1, y2, y3, h =>
    if (y3 < 10 : Prop) then
      th_bd (fX0_has (q + 1) y2 h) fun u2 h2 =>
      if (u2 = 0 : Prop) then
        fX1_markCount_c12 q k4 n (y1 + 0) y2 (y3 + 1) h2
      else
        th_bd (fX0_goesOver (q + 1) y2 y3 h2) fun u4 h4 =>
        if (u4 = 0 : Prop) then
          fX1_markCount_c12 q k4 n (y1 + 0) y2 (y3 + 1) h4
        else
          th_bd (fX1_isMarked q y2 y3 h4) fun u6 h6 =>
          if (u6 = 0 : Prop) then
            fX1_markCount_c12 q k4 n (y1 + 0) y2 (y3 + 1) h6
          else
            fX1_markCount_c12 q k4 n (y1 + 1) y2 (y3 + 1) h6
    else
      k4 y1 (y2 + 1) h
def fX1_markCount_c4 (q : Nat) : Nat → Int32 → Int32 → th_H → Option (Int32 × th_H)
  | 0, _, _, _ => none
  | n + 1, y1, y2, h =>
    if (y2 < 20 : Prop) then
      fX1_markCount_c12 q (fX1_markCount_c4 q n) 1000 y1 y2 0 h
    else
      some (y1, h)
def fX1_markCount (q : Nat) (h : th_H) : Option (Int32 × th_H) :=
  fX1_markCount_c4 q 1000 0 0 h
def tbX1_markCount : List (Nat × Instr × Nat) := [(0, .iconst 0, 1), (1, .istore_n 1, 1), (2, .iconst 0, 1), (3, .istore_n 2, 1), (4, .iload_n 2, 1), (5, .bipush 20, 2), (7, .if_icmp .ge 63, 3), (10, .iconst 0, 1), (11, .istore_n 3, 1), (12, .iload_n 3, 1), (13, .bipush 10, 2), (15, .if_icmp .ge 49, 3), (18, .iload_n 1, 1), (19, .aload_n 0, 1), (20, .getfield 12, 3), (23, .iload_n 2, 1), (24, .invokevirtual 121, 3), (27, .ifCond .eq 28, 3), (30, .aload_n 0, 1), (31, .getfield 12, 3), (34, .iload_n 2, 1), (35, .iload_n 3, 1), (36, .invokevirtual 94, 3), (39, .ifCond .eq 16, 3), (42, .aload_n 0, 1), (43, .iload_n 2, 1), (44, .iload_n 3, 1), (45, .invokevirtual 125, 3), (48, .ifCond .eq 7, 3), (51, .iconst 1, 1), (52, .goto 4, 3), (55, .iconst 0, 1), (56, .iadd, 1), (57, .istore_n 1, 1), (58, .iinc 3 1, 3), (61, .goto (-49), 3), (64, .iinc 2 1, 3), (67, .goto (-63), 3), (70, .iload_n 1, 1), (71, .ireturn, 1)]
theorem dtX1_markCount : th_dec cX1_markCount tbX1_markCount = true := by decide +kernel
section
variable {p0 : Program} {l : Launch} {e : Env} {s : State} {m : MethodId} {args : Array Value} {below : List Frame} {meth : Method} {c : Code} {D : va_G} {cI cZ : ClassId} {ad : Nat → Nat} {rr : Int32} {hh : th_H}
set_option maxHeartbeats 4000000 in
set_option maxRecDepth 100000 in
theorem tX1_markCount_c12 (X : th_X p0 s m args meth c D cI cZ ad LC 4 RX1 cX1_markCount (some .int)) (q : Nat) (hq : isQ q) (k4 : Int32 → Int32 → th_H → Option (Int32 × th_H)) (hk4 : ∀ (y1 : Int32) (y2 : Int32) (h : th_H), k4 y1 y2 h = some (rr, hh) → th_V p0 l e { frames := 5, cells := 0, slots := 0, locals := 117 } s m args below meth c D cI cZ ad LC 4 (some (.int rr)) hh 4 [.ref q, .int y1, .int y2, .null] [] h) : ∀ (n : Nat) (y1 : Int32) (y2 : Int32) (y3 : Int32) (h : th_H), fX1_markCount_c12 q k4 n y1 y2 y3 h = some (rr, hh) → th_V p0 l e { frames := 5, cells := 0, slots := 0, locals := 117 } s m args below meth c D cI cZ ad LC 4 (some (.int rr)) hh 12 [.ref q, .int y1, .int y2, .int y3] [] h := by
  intro n
  induction n with
  | zero => intro y1 y2 y3 h hf; cases hf
  | succ n ih =>
    intro y1 y2 y3 h hf
    rw [fX1_markCount_c12] at hf
    refine V_iload_n (pc := 12) X (th_da dtX1_markCount 9 rfl) rfl ?_
    refine V_bipush (pc := 13) (v := 10) X (th_da dtX1_markCount 10 rfl) (by decide) ?_
    refine V_icmp_ge (pc := 15) (tgt := 64) X (th_da dtX1_markCount 11 rfl) (by decide) (fun c1 => ?_) (fun c1 => ?_)
    · rw [if_pos c1] at hf
      refine V_iload_n (pc := 18) X (th_da dtX1_markCount 12 rfl) rfl ?_
      refine V_aload_n (pc := 19) X (th_da dtX1_markCount 13 rfl) rfl ?_
      refine V_getR (pc := 20) (j := 0) (t := (q + 1)) X (th_da dtX1_markCount 14 rfl) wfl_X1_12 iX1 rfl (Q_0 hq) (Nat.le_of_ble_eq_true rfl) rfl ?_
      refine V_iload_n (pc := 23) X (th_da dtX1_markCount 15 rfl) rfl ?_
      obtain ⟨u2, h2, e2, hf⟩ := th_bd_some hf
      refine V_callVi (pc := 24) (q := (q + 1)) (As := [.int y2]) X (th_da dtX1_markCount 16 rfl) (mX0_has l (q + 1) (Q_p hq) _ _ _ _ e2) wcd_X0_has wml_X1_121 wim_X0_has wse_X0_has win_X0_has hd_X0_has ⟨Nat.le_of_ble_eq_true rfl, Nat.le_of_ble_eq_true rfl⟩ (Nat.le_of_ble_eq_true rfl) rfl (P_0 (Q_p hq)) rfl ?_
      refine V_if_eq (pc := 27) (tgt := 55) X (th_da dtX1_markCount 17 rfl) (by decide) (fun c3 => ?_) (fun c3 => ?_)
      · rw [if_pos c3] at hf
        refine V_iconst (pc := 55) (v := 0) X (th_da dtX1_markCount 31 rfl) (by decide) ?_
        refine V_iadd (pc := 56) X (th_da dtX1_markCount 32 rfl) ?_
        refine V_istore_n (pc := 57) (ls2 := [.ref q, .int (y1 + 0), .int y2, .int y3]) X (th_da dtX1_markCount 33 rfl) (Nat.le_of_ble_eq_true rfl) rfl rfl ?_
        refine V_iinc (pc := 58) (v := y3 + 1) (ls2 := [.ref q, .int (y1 + 0), .int y2, .int (y3 + 1)]) X (th_da dtX1_markCount 34 rfl) rfl rfl (Nat.le_of_ble_eq_true rfl) rfl rfl ?_
        refine V_goto (pc := 61) (tgt := 12) X (th_da dtX1_markCount 35 rfl) (by decide) ?_
        exact ih _ _ _ _ hf
      · rw [if_neg c3] at hf
        refine V_aload_n (pc := 30) X (th_da dtX1_markCount 18 rfl) rfl ?_
        refine V_getR (pc := 31) (j := 0) (t := (q + 1)) X (th_da dtX1_markCount 19 rfl) wfl_X1_12 iX1 rfl (Q_0 hq) (Nat.le_of_ble_eq_true rfl) rfl ?_
        refine V_iload_n (pc := 34) X (th_da dtX1_markCount 20 rfl) rfl ?_
        refine V_iload_n (pc := 35) X (th_da dtX1_markCount 21 rfl) rfl ?_
        obtain ⟨u4, h4, e4, hf⟩ := th_bd_some hf
        refine V_callVi (pc := 36) (q := (q + 1)) (As := [.int y2, .int y3]) X (th_da dtX1_markCount 22 rfl) (mX0_goesOver l (q + 1) (Q_p hq) _ _ _ _ _ e4) wcd_X0_goesOver wml_X1_94 wim_X0_goesOver wse_X0_goesOver win_X0_goesOver hd_X0_goesOver ⟨Nat.le_of_ble_eq_true rfl, Nat.le_of_ble_eq_true rfl⟩ (Nat.le_of_ble_eq_true rfl) rfl (P_0 (Q_p hq)) rfl ?_
        refine V_if_eq (pc := 39) (tgt := 55) X (th_da dtX1_markCount 23 rfl) (by decide) (fun c5 => ?_) (fun c5 => ?_)
        · rw [if_pos c5] at hf
          refine V_iconst (pc := 55) (v := 0) X (th_da dtX1_markCount 31 rfl) (by decide) ?_
          refine V_iadd (pc := 56) X (th_da dtX1_markCount 32 rfl) ?_
          refine V_istore_n (pc := 57) (ls2 := [.ref q, .int (y1 + 0), .int y2, .int y3]) X (th_da dtX1_markCount 33 rfl) (Nat.le_of_ble_eq_true rfl) rfl rfl ?_
          refine V_iinc (pc := 58) (v := y3 + 1) (ls2 := [.ref q, .int (y1 + 0), .int y2, .int (y3 + 1)]) X (th_da dtX1_markCount 34 rfl) rfl rfl (Nat.le_of_ble_eq_true rfl) rfl rfl ?_
          refine V_goto (pc := 61) (tgt := 12) X (th_da dtX1_markCount 35 rfl) (by decide) ?_
          exact ih _ _ _ _ hf
        · rw [if_neg c5] at hf
          refine V_aload_n (pc := 42) X (th_da dtX1_markCount 24 rfl) rfl ?_
          refine V_iload_n (pc := 43) X (th_da dtX1_markCount 25 rfl) rfl ?_
          refine V_iload_n (pc := 44) X (th_da dtX1_markCount 26 rfl) rfl ?_
          obtain ⟨u6, h6, e6, hf⟩ := th_bd_some hf
          refine V_callVi (pc := 45) (q := q) (As := [.int y2, .int y3]) X (th_da dtX1_markCount 27 rfl) (mX1_isMarked l q hq _ _ _ _ _ e6) wcd_X1_isMarked wml_X1_125 wim_X1_isMarked wse_X1_isMarked win_X1_isMarked hd_X1_isMarked ⟨Nat.le_of_ble_eq_true rfl, Nat.le_of_ble_eq_true rfl⟩ (Nat.le_of_ble_eq_true rfl) rfl (Q_0 hq) rfl ?_
          refine V_if_eq (pc := 48) (tgt := 55) X (th_da dtX1_markCount 28 rfl) (by decide) (fun c7 => ?_) (fun c7 => ?_)
          · rw [if_pos c7] at hf
            refine V_iconst (pc := 55) (v := 0) X (th_da dtX1_markCount 31 rfl) (by decide) ?_
            refine V_iadd (pc := 56) X (th_da dtX1_markCount 32 rfl) ?_
            refine V_istore_n (pc := 57) (ls2 := [.ref q, .int (y1 + 0), .int y2, .int y3]) X (th_da dtX1_markCount 33 rfl) (Nat.le_of_ble_eq_true rfl) rfl rfl ?_
            refine V_iinc (pc := 58) (v := y3 + 1) (ls2 := [.ref q, .int (y1 + 0), .int y2, .int (y3 + 1)]) X (th_da dtX1_markCount 34 rfl) rfl rfl (Nat.le_of_ble_eq_true rfl) rfl rfl ?_
            refine V_goto (pc := 61) (tgt := 12) X (th_da dtX1_markCount 35 rfl) (by decide) ?_
            exact ih _ _ _ _ hf
          · rw [if_neg c7] at hf
            refine V_iconst (pc := 51) (v := 1) X (th_da dtX1_markCount 29 rfl) (by decide) ?_
            refine V_goto (pc := 52) (tgt := 56) X (th_da dtX1_markCount 30 rfl) (by decide) ?_
            refine V_iadd (pc := 56) X (th_da dtX1_markCount 32 rfl) ?_
            refine V_istore_n (pc := 57) (ls2 := [.ref q, .int (y1 + 1), .int y2, .int y3]) X (th_da dtX1_markCount 33 rfl) (Nat.le_of_ble_eq_true rfl) rfl rfl ?_
            refine V_iinc (pc := 58) (v := y3 + 1) (ls2 := [.ref q, .int (y1 + 1), .int y2, .int (y3 + 1)]) X (th_da dtX1_markCount 34 rfl) rfl rfl (Nat.le_of_ble_eq_true rfl) rfl rfl ?_
            refine V_goto (pc := 61) (tgt := 12) X (th_da dtX1_markCount 35 rfl) (by decide) ?_
            exact ih _ _ _ _ hf
    · rw [if_neg c1] at hf
      refine V_iinc (pc := 64) (v := y2 + 1) (ls2 := [.ref q, .int y1, .int (y2 + 1), .int y3]) X (th_da dtX1_markCount 36 rfl) rfl rfl (Nat.le_of_ble_eq_true rfl) rfl rfl ?_
      refine V_goto (pc := 67) (tgt := 4) X (th_da dtX1_markCount 37 rfl) (by decide) ?_
      refine V_mask [true, true, true, false] (ls2 := [.ref q, .int y1, .int (y2 + 1), .null]) rfl ?_
      exact hk4 _ _ _ hf
set_option maxHeartbeats 4000000 in
set_option maxRecDepth 100000 in
theorem tX1_markCount_c4 (X : th_X p0 s m args meth c D cI cZ ad LC 4 RX1 cX1_markCount (some .int)) (q : Nat) (hq : isQ q) : ∀ (n : Nat) (y1 : Int32) (y2 : Int32) (h : th_H), fX1_markCount_c4 q n y1 y2 h = some (rr, hh) → th_V p0 l e { frames := 5, cells := 0, slots := 0, locals := 117 } s m args below meth c D cI cZ ad LC 4 (some (.int rr)) hh 4 [.ref q, .int y1, .int y2, .null] [] h := by
  intro n
  induction n with
  | zero => intro y1 y2 h hf; cases hf
  | succ n ih =>
    intro y1 y2 h hf
    rw [fX1_markCount_c4] at hf
    refine V_iload_n (pc := 4) X (th_da dtX1_markCount 4 rfl) rfl ?_
    refine V_bipush (pc := 5) (v := 20) X (th_da dtX1_markCount 5 rfl) (by decide) ?_
    refine V_icmp_ge (pc := 7) (tgt := 70) X (th_da dtX1_markCount 6 rfl) (by decide) (fun c1 => ?_) (fun c1 => ?_)
    · rw [if_pos c1] at hf
      refine V_iconst (pc := 10) (v := 0) X (th_da dtX1_markCount 7 rfl) (by decide) ?_
      refine V_istore_n (pc := 11) (ls2 := [.ref q, .int y1, .int y2, .int 0]) X (th_da dtX1_markCount 8 rfl) (Nat.le_of_ble_eq_true rfl) rfl rfl ?_
      exact tX1_markCount_c12 X _ hq _ ih _ _ _ _ _ hf
    · rw [if_neg c1] at hf
      refine V_iload_n (pc := 70) X (th_da dtX1_markCount 38 rfl) rfl ?_
      exact V_iretF (pc := 71) X (th_da dtX1_markCount 39 rfl) hf
set_option maxHeartbeats 4000000 in
set_option maxRecDepth 100000 in
theorem mX1_markCount (l : Launch) (q : Nat) (hq : isQ q) (h : th_H) (rr : Int32) (hh : th_H) (hf : fX1_markCount q h = some (rr, hh)) : th_MI l LC yX1_markCount cX1_markCount 4 (some .int) 5 117 [.ref q] h (some (.int rr)) hh := by
  refine th_MI_of (ls := [.ref q, .null, .null, .null]) RX1 rfl rfl rfl (Nat.le_of_ble_eq_true rfl) ?_
  intro p0 e s m args below meth c D cI cZ ad X
  unfold fX1_markCount at hf
  refine V_iconst (pc := 0) (v := 0) X (th_da dtX1_markCount 0 rfl) (by decide) ?_
  refine V_istore_n (pc := 1) (ls2 := [.ref q, .int 0, .null, .null]) X (th_da dtX1_markCount 1 rfl) (Nat.le_of_ble_eq_true rfl) rfl rfl ?_
  refine V_iconst (pc := 2) (v := 0) X (th_da dtX1_markCount 2 rfl) (by decide) ?_
  refine V_istore_n (pc := 3) (ls2 := [.ref q, .int 0, .int 0, .null]) X (th_da dtX1_markCount 3 rfl) (Nat.le_of_ble_eq_true rfl) rfl rfl ?_
  exact tX1_markCount_c4 X _ hq _ _ _ _ hf
end
def fX1_underWay_c4 (q : Nat) : Nat → Int32 → Int32 → th_H → Option (Int32 × th_H)
  | 0, _, _, _ => none
  | n + 1, y1, y2, h =>
    if (y2 < 20 : Prop) then
      th_rd h (q + 13) 20 y2 fun v2 =>
      if (v2 = 0 : Prop) then
        fX1_underWay_c4 q n (y1 + 0) (y2 + 1) h
      else
        fX1_underWay_c4 q n (y1 + 1) (y2 + 1) h
    else
      some (y1, h)
def fX1_underWay (q : Nat) (h : th_H) : Option (Int32 × th_H) :=
  fX1_underWay_c4 q 1000 0 0 h
def tbX1_underWay : List (Nat × Instr × Nat) := [(0, .iconst 0, 1), (1, .istore_n 1, 1), (2, .iconst 0, 1), (3, .istore_n 2, 1), (4, .iload_n 2, 1), (5, .bipush 20, 2), (7, .if_icmp .ge 26, 3), (10, .iload_n 1, 1), (11, .aload_n 0, 1), (12, .getfield 31, 3), (15, .iload_n 2, 1), (16, .iaload, 1), (17, .ifCond .eq 7, 3), (20, .iconst 1, 1), (21, .goto 4, 3), (24, .iconst 0, 1), (25, .iadd, 1), (26, .istore_n 1, 1), (27, .iinc 2 1, 3), (30, .goto (-26), 3), (33, .iload_n 1, 1), (34, .ireturn, 1)]
theorem dtX1_underWay : th_dec cX1_underWay tbX1_underWay = true := by decide +kernel
section
variable {p0 : Program} {l : Launch} {e : Env} {s : State} {m : MethodId} {args : Array Value} {below : List Frame} {meth : Method} {c : Code} {D : va_G} {cI cZ : ClassId} {ad : Nat → Nat} {rr : Int32} {hh : th_H}
set_option maxHeartbeats 4000000 in
set_option maxRecDepth 100000 in
theorem tX1_underWay_c4 (X : th_X p0 s m args meth c D cI cZ ad LC 3 RX1 cX1_underWay (some .int)) (q : Nat) (hq : isQ q) : ∀ (n : Nat) (y1 : Int32) (y2 : Int32) (h : th_H), fX1_underWay_c4 q n y1 y2 h = some (rr, hh) → th_V p0 l e { frames := 0, cells := 0, slots := 0, locals := 0 } s m args below meth c D cI cZ ad LC 3 (some (.int rr)) hh 4 [.ref q, .int y1, .int y2] [] h := by
  intro n
  induction n with
  | zero => intro y1 y2 h hf; cases hf
  | succ n ih =>
    intro y1 y2 h hf
    rw [fX1_underWay_c4] at hf
    refine V_iload_n (pc := 4) X (th_da dtX1_underWay 4 rfl) rfl ?_
    refine V_bipush (pc := 5) (v := 20) X (th_da dtX1_underWay 5 rfl) (by decide) ?_
    refine V_icmp_ge (pc := 7) (tgt := 33) X (th_da dtX1_underWay 6 rfl) (by decide) (fun c1 => ?_) (fun c1 => ?_)
    · rw [if_pos c1] at hf
      refine V_iload_n (pc := 10) X (th_da dtX1_underWay 7 rfl) rfl ?_
      refine V_aload_n (pc := 11) X (th_da dtX1_underWay 8 rfl) rfl ?_
      refine V_getR (pc := 12) (j := 5) (t := (q + 13)) X (th_da dtX1_underWay 9 rfl) wfl_X1_31 iX1 rfl (Q_0 hq) (Nat.le_of_ble_eq_true rfl) rfl ?_
      refine V_iload_n (pc := 15) X (th_da dtX1_underWay 10 rfl) rfl ?_
      obtain ⟨v2, e2, g2, hf⟩ := th_rd_some hf
      refine V_iald (pc := 16) X (th_da dtX1_underWay 11 rfl) (Q_13 hq) g2 e2 ?_
      refine V_if_eq (pc := 17) (tgt := 24) X (th_da dtX1_underWay 12 rfl) (by decide) (fun c3 => ?_) (fun c3 => ?_)
      · rw [if_pos c3] at hf
        refine V_iconst (pc := 24) (v := 0) X (th_da dtX1_underWay 15 rfl) (by decide) ?_
        refine V_iadd (pc := 25) X (th_da dtX1_underWay 16 rfl) ?_
        refine V_istore_n (pc := 26) (ls2 := [.ref q, .int (y1 + 0), .int y2]) X (th_da dtX1_underWay 17 rfl) (Nat.le_of_ble_eq_true rfl) rfl rfl ?_
        refine V_iinc (pc := 27) (v := y2 + 1) (ls2 := [.ref q, .int (y1 + 0), .int (y2 + 1)]) X (th_da dtX1_underWay 18 rfl) rfl rfl (Nat.le_of_ble_eq_true rfl) rfl rfl ?_
        refine V_goto (pc := 30) (tgt := 4) X (th_da dtX1_underWay 19 rfl) (by decide) ?_
        exact ih _ _ _ hf
      · rw [if_neg c3] at hf
        refine V_iconst (pc := 20) (v := 1) X (th_da dtX1_underWay 13 rfl) (by decide) ?_
        refine V_goto (pc := 21) (tgt := 25) X (th_da dtX1_underWay 14 rfl) (by decide) ?_
        refine V_iadd (pc := 25) X (th_da dtX1_underWay 16 rfl) ?_
        refine V_istore_n (pc := 26) (ls2 := [.ref q, .int (y1 + 1), .int y2]) X (th_da dtX1_underWay 17 rfl) (Nat.le_of_ble_eq_true rfl) rfl rfl ?_
        refine V_iinc (pc := 27) (v := y2 + 1) (ls2 := [.ref q, .int (y1 + 1), .int (y2 + 1)]) X (th_da dtX1_underWay 18 rfl) rfl rfl (Nat.le_of_ble_eq_true rfl) rfl rfl ?_
        refine V_goto (pc := 30) (tgt := 4) X (th_da dtX1_underWay 19 rfl) (by decide) ?_
        exact ih _ _ _ hf
    · rw [if_neg c1] at hf
      refine V_iload_n (pc := 33) X (th_da dtX1_underWay 20 rfl) rfl ?_
      exact V_iretF (pc := 34) X (th_da dtX1_underWay 21 rfl) hf
set_option maxHeartbeats 4000000 in
set_option maxRecDepth 100000 in
theorem mX1_underWay (l : Launch) (q : Nat) (hq : isQ q) (h : th_H) (rr : Int32) (hh : th_H) (hf : fX1_underWay q h = some (rr, hh)) : th_MI l LC yX1_underWay cX1_underWay 3 (some .int) 0 0 [.ref q] h (some (.int rr)) hh := by
  refine th_MI_of (ls := [.ref q, .null, .null]) RX1 rfl rfl rfl (Nat.le_of_ble_eq_true rfl) ?_
  intro p0 e s m args below meth c D cI cZ ad X
  unfold fX1_underWay at hf
  refine V_iconst (pc := 0) (v := 0) X (th_da dtX1_underWay 0 rfl) (by decide) ?_
  refine V_istore_n (pc := 1) (ls2 := [.ref q, .int 0, .null]) X (th_da dtX1_underWay 1 rfl) (Nat.le_of_ble_eq_true rfl) rfl rfl ?_
  refine V_iconst (pc := 2) (v := 0) X (th_da dtX1_underWay 2 rfl) (by decide) ?_
  refine V_istore_n (pc := 3) (ls2 := [.ref q, .int 0, .int 0]) X (th_da dtX1_underWay 3 rfl) (Nat.le_of_ble_eq_true rfl) rfl rfl ?_
  exact tX1_underWay_c4 X _ hq _ _ _ _ hf
end
def fX1_allToLose_c4 (q : Nat) : Nat → Int32 → Int32 → th_H → Option (Int32 × th_H)
  | 0, _, _, _ => none
  | n + 1, y1, y2, h =>
    if (y2 < 10 : Prop) then
      th_rd h (q + 12) 10 y2 fun v2 =>
      fX1_allToLose_c4 q n (y1 + v2) (y2 + 1) h
    else
      some (y1, h)
def fX1_allToLose (q : Nat) (h : th_H) : Option (Int32 × th_H) :=
  fX1_allToLose_c4 q 1000 0 0 h
def tbX1_allToLose : List (Nat × Instr × Nat) := [(0, .iconst 0, 1), (1, .istore_n 1, 1), (2, .iconst 0, 1), (3, .istore_n 2, 1), (4, .iload_n 2, 1), (5, .bipush 10, 2), (7, .if_icmp .ge 18, 3), (10, .iload_n 1, 1), (11, .aload_n 0, 1), (12, .getfield 28, 3), (15, .iload_n 2, 1), (16, .iaload, 1), (17, .iadd, 1), (18, .istore_n 1, 1), (19, .iinc 2 1, 3), (22, .goto (-18), 3), (25, .iload_n 1, 1), (26, .ireturn, 1)]
theorem dtX1_allToLose : th_dec cX1_allToLose tbX1_allToLose = true := by decide +kernel
section
variable {p0 : Program} {l : Launch} {e : Env} {s : State} {m : MethodId} {args : Array Value} {below : List Frame} {meth : Method} {c : Code} {D : va_G} {cI cZ : ClassId} {ad : Nat → Nat} {rr : Int32} {hh : th_H}
set_option maxHeartbeats 4000000 in
set_option maxRecDepth 100000 in
theorem tX1_allToLose_c4 (X : th_X p0 s m args meth c D cI cZ ad LC 3 RX1 cX1_allToLose (some .int)) (q : Nat) (hq : isQ q) : ∀ (n : Nat) (y1 : Int32) (y2 : Int32) (h : th_H), fX1_allToLose_c4 q n y1 y2 h = some (rr, hh) → th_V p0 l e { frames := 0, cells := 0, slots := 0, locals := 0 } s m args below meth c D cI cZ ad LC 3 (some (.int rr)) hh 4 [.ref q, .int y1, .int y2] [] h := by
  intro n
  induction n with
  | zero => intro y1 y2 h hf; cases hf
  | succ n ih =>
    intro y1 y2 h hf
    rw [fX1_allToLose_c4] at hf
    refine V_iload_n (pc := 4) X (th_da dtX1_allToLose 4 rfl) rfl ?_
    refine V_bipush (pc := 5) (v := 10) X (th_da dtX1_allToLose 5 rfl) (by decide) ?_
    refine V_icmp_ge (pc := 7) (tgt := 25) X (th_da dtX1_allToLose 6 rfl) (by decide) (fun c1 => ?_) (fun c1 => ?_)
    · rw [if_pos c1] at hf
      refine V_iload_n (pc := 10) X (th_da dtX1_allToLose 7 rfl) rfl ?_
      refine V_aload_n (pc := 11) X (th_da dtX1_allToLose 8 rfl) rfl ?_
      refine V_getR (pc := 12) (j := 4) (t := (q + 12)) X (th_da dtX1_allToLose 9 rfl) wfl_X1_28 iX1 rfl (Q_0 hq) (Nat.le_of_ble_eq_true rfl) rfl ?_
      refine V_iload_n (pc := 15) X (th_da dtX1_allToLose 10 rfl) rfl ?_
      obtain ⟨v2, e2, g2, hf⟩ := th_rd_some hf
      refine V_iald (pc := 16) X (th_da dtX1_allToLose 11 rfl) (Q_12 hq) g2 e2 ?_
      refine V_iadd (pc := 17) X (th_da dtX1_allToLose 12 rfl) ?_
      refine V_istore_n (pc := 18) (ls2 := [.ref q, .int (y1 + v2), .int y2]) X (th_da dtX1_allToLose 13 rfl) (Nat.le_of_ble_eq_true rfl) rfl rfl ?_
      refine V_iinc (pc := 19) (v := y2 + 1) (ls2 := [.ref q, .int (y1 + v2), .int (y2 + 1)]) X (th_da dtX1_allToLose 14 rfl) rfl rfl (Nat.le_of_ble_eq_true rfl) rfl rfl ?_
      refine V_goto (pc := 22) (tgt := 4) X (th_da dtX1_allToLose 15 rfl) (by decide) ?_
      exact ih _ _ _ hf
    · rw [if_neg c1] at hf
      refine V_iload_n (pc := 25) X (th_da dtX1_allToLose 16 rfl) rfl ?_
      exact V_iretF (pc := 26) X (th_da dtX1_allToLose 17 rfl) hf
set_option maxHeartbeats 4000000 in
set_option maxRecDepth 100000 in
theorem mX1_allToLose (l : Launch) (q : Nat) (hq : isQ q) (h : th_H) (rr : Int32) (hh : th_H) (hf : fX1_allToLose q h = some (rr, hh)) : th_MI l LC yX1_allToLose cX1_allToLose 3 (some .int) 0 0 [.ref q] h (some (.int rr)) hh := by
  refine th_MI_of (ls := [.ref q, .null, .null]) RX1 rfl rfl rfl (Nat.le_of_ble_eq_true rfl) ?_
  intro p0 e s m args below meth c D cI cZ ad X
  unfold fX1_allToLose at hf
  refine V_iconst (pc := 0) (v := 0) X (th_da dtX1_allToLose 0 rfl) (by decide) ?_
  refine V_istore_n (pc := 1) (ls2 := [.ref q, .int 0, .null]) X (th_da dtX1_allToLose 1 rfl) (Nat.le_of_ble_eq_true rfl) rfl rfl ?_
  refine V_iconst (pc := 2) (v := 0) X (th_da dtX1_allToLose 2 rfl) (by decide) ?_
  refine V_istore_n (pc := 3) (ls2 := [.ref q, .int 0, .int 0]) X (th_da dtX1_allToLose 3 rfl) (Nat.le_of_ble_eq_true rfl) rfl rfl ?_
  exact tX1_allToLose_c4 X _ hq _ _ _ _ hf
end
