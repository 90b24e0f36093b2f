def fX4_thrown (h : th_H) : Option (Int32 × th_H) :=
  some ((h.1 0 0), h)
def tbX4_thrown : List (Nat × Instr × Nat) := [(0, .aload_n 0, 1), (1, .getfield 55, 3), (4, .ireturn, 1)]
theorem dtX4_thrown : th_dec cX4_thrown tbX4_thrown = true := by decide +kernel
section
variable {p0 : Program} {l : Launch} {e : Env} {s : State} {m : MethodId} {args : Array Value} {below : List Frame} {meth : Method} {c : Code} {D : va_G} {cI cZ : ClassId} {ad : Nat → Nat} {rr : Int32} {hh : th_H}
set_option maxHeartbeats 4000000 in
set_option maxRecDepth 100000 in
theorem mX4_thrown (l : Launch) (h : th_H) (rr : Int32) (hh : th_H) (hf : fX4_thrown h = some (rr, hh)) : th_MI l LM yX4_thrown cX4_thrown 1 (some .int) 0 0 [.ref 0] h (some (.int rr)) hh := by
  refine th_MI_of (ls := [.ref 0]) RX4 rfl rfl rfl (Nat.le_of_ble_eq_true rfl) ?_
  intro p0 e s m args below meth c D cI cZ ad X
  unfold fX4_thrown at hf
  refine V_aload_n (pc := 0) X (th_da dtX4_thrown 0 rfl) rfl ?_
  refine V_getI (pc := 1) (j := 0) X (th_da dtX4_thrown 1 rfl) wfl_X4_55 iX4 rfl rfl (Nat.le_of_ble_eq_true rfl) rfl ?_
  exact V_iretF (pc := 4) X (th_da dtX4_thrown 2 rfl) hf
end
def fX4_in (x0 : Int64) (x2 : Int64) (x4 : Int64) (h : th_H) : Option (Int32 × th_H) :=
  if ((lg_cmp x0 x2) < 0 : Prop) then
    some (0, h)
  else
    if (0 < (lg_cmp x0 x4) : Prop) then
      some (0, h)
    else
      some (1, h)
def tbX4_in : List (Nat × Instr × Nat) := [(0, .lload_n 0, 1), (1, .lload_n 2, 1), (2, .lcmp, 1), (3, .ifCond .lt 14, 3), (6, .lload_n 0, 1), (7, .lload 4, 2), (9, .lcmp, 1), (10, .ifCond .gt 7, 3), (13, .iconst 1, 1), (14, .goto 4, 3), (17, .iconst 0, 1), (18, .ireturn, 1)]
theorem dtX4_in : th_dec cX4_in tbX4_in = true := by decide +kernel
section
variable {p0 : Program} {l : Launch} {e : Env} {s : State} {m : MethodId} {args : Array Value} {below : List Frame} {meth : Method} {c : Code} {D : va_G} {cI cZ : ClassId} {ad : Nat → Nat} {rr : Int32} {hh : th_H}
set_option maxHeartbeats 4000000 in
set_option maxRecDepth 100000 in
theorem mX4_in (l : Launch) (x0 : Int64) (x2 : Int64) (x4 : Int64) (h : th_H) (rr : Int32) (hh : th_H) (hf : fX4_in x0 x2 x4 h = some (rr, hh)) : th_MI l LM yX4_in cX4_in 6 (some .boolean) 0 0 [.long x0, .long x2, .long x4] h (some (.int rr)) hh := by
  refine th_MI_of (ls := [.long x0, .null, .long x2, .null, .long x4, .null]) RX4 rfl rfl rfl (Nat.le_of_ble_eq_true rfl) ?_
  intro p0 e s m args below meth c D cI cZ ad X
  unfold fX4_in at hf
  refine V_lload_n (pc := 0) X (th_da dtX4_in 0 rfl) rfl ?_
  refine V_lload_n (pc := 1) X (th_da dtX4_in 1 rfl) rfl ?_
  refine V_lcmp (pc := 2) X (th_da dtX4_in 2 rfl) ?_
  refine V_if_lt (pc := 3) (tgt := 17) X (th_da dtX4_in 3 rfl) (by decide) (fun c1 => ?_) (fun c1 => ?_)
  · rw [if_pos c1] at hf
    refine V_iconst (pc := 17) (v := 0) X (th_da dtX4_in 10 rfl) (by decide) ?_
    exact V_zretF (pc := 18) X (th_da dtX4_in 11 rfl) (Or.inl rfl) hf
  · rw [if_neg c1] at hf
    refine V_lload_n (pc := 6) X (th_da dtX4_in 4 rfl) rfl ?_
    refine V_lload (pc := 7) X (th_da dtX4_in 5 rfl) rfl ?_
    refine V_lcmp (pc := 9) X (th_da dtX4_in 6 rfl) ?_
    refine V_if_gt (pc := 10) (tgt := 17) X (th_da dtX4_in 7 rfl) (by decide) (fun c2 => ?_) (fun c2 => ?_)
    · rw [if_pos c2] at hf
      refine V_iconst (pc := 17) (v := 0) X (th_da dtX4_in 10 rfl) (by decide) ?_
      exact V_zretF (pc := 18) X (th_da dtX4_in 11 rfl) (Or.inl rfl) hf
    · rw [if_neg c2] at hf
      refine V_iconst (pc := 13) (v := 1) X (th_da dtX4_in 8 rfl) (by decide) ?_
      refine V_goto (pc := 14) (tgt := 18) X (th_da dtX4_in 9 rfl) (by decide) ?_
      exact V_zretF (pc := 18) X (th_da dtX4_in 11 rfl) (Or.inr rfl) hf
end
def fX4_lesser (x0 : Int32) (x1 : Int32) (h : th_H) : Option (Int32 × th_H) :=
  if (x0 < x1 : Prop) then
    some (x0, h)
  else
    some (x1, h)
def tbX4_lesser : List (Nat × Instr × Nat) := [(0, .iload_n 0, 1), (1, .iload_n 1, 1), (2, .if_icmp .ge 7, 3), (5, .iload_n 0, 1), (6, .goto 4, 3), (9, .iload_n 1, 1), (10, .ireturn, 1)]
theorem dtX4_lesser : th_dec cX4_lesser tbX4_lesser = true := by decide +kernel
section
variable {p0 : Program} {l : Launch} {e : Env} {s : State} {m : MethodId} {args : Array Value} {below : List Frame} {meth : Method} {c : Code} {D : va_G} {cI cZ : ClassId} {ad : Nat → Nat} {rr : Int32} {hh : th_H}
set_option maxHeartbeats 4000000 in
set_option maxRecDepth 100000 in
theorem mX4_lesser (l : Launch) (x0 : Int32) (x1 : Int32) (h : th_H) (rr : Int32) (hh : th_H) (hf : fX4_lesser x0 x1 h = some (rr, hh)) : th_MI l LM yX4_lesser cX4_lesser 2 (some .int) 0 0 [.int x0, .int x1] h (some (.int rr)) hh := by
  refine th_MI_of (ls := [.int x0, .int x1]) RX4 rfl rfl rfl (Nat.le_of_ble_eq_true rfl) ?_
  intro p0 e s m args below meth c D cI cZ ad X
  unfold fX4_lesser at hf
  refine V_iload_n (pc := 0) X (th_da dtX4_lesser 0 rfl) rfl ?_
  refine V_iload_n (pc := 1) X (th_da dtX4_lesser 1 rfl) rfl ?_
  refine V_icmp_ge (pc := 2) (tgt := 9) X (th_da dtX4_lesser 2 rfl) (by decide) (fun c1 => ?_) (fun c1 => ?_)
  · rw [if_pos c1] at hf
    refine V_iload_n (pc := 5) X (th_da dtX4_lesser 3 rfl) rfl ?_
    refine V_goto (pc := 6) (tgt := 10) X (th_da dtX4_lesser 4 rfl) (by decide) ?_
    exact V_iretF (pc := 10) X (th_da dtX4_lesser 6 rfl) hf
  · rw [if_neg c1] at hf
    refine V_iload_n (pc := 9) X (th_da dtX4_lesser 5 rfl) rfl ?_
    exact V_iretF (pc := 10) X (th_da dtX4_lesser 6 rfl) hf
end
def fX4_ones_c4 : Nat → Int32 → Int32 → th_H → Option (Int32 × th_H)
  | 0, _, _, _ => none
  | n + 1, y1, y2, h =>
    if (y2 = 0 : Prop) then
      some (y1, h)
    else
      fX4_ones_c4 n (y1 + 1) (y2 &&& (y2 - 1)) h
def fX4_ones (x0 : Int32) (h : th_H) : Option (Int32 × th_H) :=
  fX4_ones_c4 1000 0 x0 h
def tbX4_ones : List (Nat × Instr × Nat) := [(0, .iconst 0, 1), (1, .istore_n 1, 1), (2, .iload_n 0, 1), (3, .istore_n 2, 1), (4, .iload_n 2, 1), (5, .ifCond .eq 15, 3), (8, .iinc 1 1, 3), (11, .iload_n 2, 1), (12, .iload_n 2, 1), (13, .iconst 1, 1), (14, .isub, 1), (15, .iand, 1), (16, .istore_n 2, 1), (17, .goto (-13), 3), (20, .iload_n 1, 1), (21, .ireturn, 1)]
theorem dtX4_ones : th_dec cX4_ones tbX4_ones = true := by decide +kernel
section
variable {p0 : Program} {l : Launch} {e : Env} {s : State} {m : MethodId} {args : Array Value} {below : List Frame} {meth : Method} {c : Code} {D : va_G} {cI cZ : ClassId} {ad : Nat → Nat} {rr : Int32} {hh : th_H}
set_option maxHeartbeats 4000000 in
set_option maxRecDepth 100000 in
theorem tX4_ones_c4 (X : th_X p0 s m args meth c D cI cZ ad LM 3 RX4 cX4_ones (some .int)) : ∀ (n : Nat) (y1 : Int32) (y2 : Int32) (h : th_H), fX4_ones_c4 n y1 y2 h = some (rr, hh) → th_V p0 l e { frames := 0, cells := 0, slots := 0, locals := 0 } s m args below meth c D cI cZ ad LM 3 (some (.int rr)) hh 4 [.null, .int y1, .int y2] [] h := by
  intro n
  induction n with
  | zero => intro y1 y2 h hf; cases hf
  | succ n ih =>
    intro y1 y2 h hf
    rw [fX4_ones_c4] at hf
    refine V_iload_n (pc := 4) X (th_da dtX4_ones 4 rfl) rfl ?_
    refine V_if_eq (pc := 5) (tgt := 20) X (th_da dtX4_ones 5 rfl) (by decide) (fun c1 => ?_) (fun c1 => ?_)
    · rw [if_pos c1] at hf
      refine V_iload_n (pc := 20) X (th_da dtX4_ones 14 rfl) rfl ?_
      exact V_iretF (pc := 21) X (th_da dtX4_ones 15 rfl) hf
    · rw [if_neg c1] at hf
      refine V_iinc (pc := 8) (v := y1 + 1) (ls2 := [.null, .int (y1 + 1), .int y2]) X (th_da dtX4_ones 6 rfl) rfl rfl (Nat.le_of_ble_eq_true rfl) rfl rfl ?_
      refine V_iload_n (pc := 11) X (th_da dtX4_ones 7 rfl) rfl ?_
      refine V_iload_n (pc := 12) X (th_da dtX4_ones 8 rfl) rfl ?_
      refine V_iconst (pc := 13) (v := 1) X (th_da dtX4_ones 9 rfl) (by decide) ?_
      refine V_isub (pc := 14) X (th_da dtX4_ones 10 rfl) ?_
      refine V_iand (pc := 15) X (th_da dtX4_ones 11 rfl) ?_
      refine V_istore_n (pc := 16) (ls2 := [.null, .int (y1 + 1), .int (y2 &&& (y2 - 1))]) X (th_da dtX4_ones 12 rfl) (Nat.le_of_ble_eq_true rfl) rfl rfl ?_
      refine V_goto (pc := 17) (tgt := 4) X (th_da dtX4_ones 13 rfl) (by decide) ?_
      exact ih _ _ _ hf
set_option maxHeartbeats 4000000 in
set_option maxRecDepth 100000 in
theorem mX4_ones (l : Launch) (x0 : Int32) (h : th_H) (rr : Int32) (hh : th_H) (hf : fX4_ones x0 h = some (rr, hh)) : th_MI l LM yX4_ones cX4_ones 3 (some .int) 0 0 [.int x0] h (some (.int rr)) hh := by
  refine th_MI_of (ls := [.int x0, .null, .null]) RX4 rfl rfl rfl (Nat.le_of_ble_eq_true rfl) ?_
  intro p0 e s m args below meth c D cI cZ ad X
  unfold fX4_ones at hf
  refine V_iconst (pc := 0) (v := 0) X (th_da dtX4_ones 0 rfl) (by decide) ?_
  refine V_istore_n (pc := 1) (ls2 := [.int x0, .int 0, .null]) X (th_da dtX4_ones 1 rfl) (Nat.le_of_ble_eq_true rfl) rfl rfl ?_
  refine V_iload_n (pc := 2) X (th_da dtX4_ones 2 rfl) rfl ?_
  refine V_istore_n (pc := 3) (ls2 := [.int x0, .int 0, .int x0]) X (th_da dtX4_ones 3 rfl) (Nat.le_of_ble_eq_true rfl) rfl rfl ?_
  refine V_mask [false, true, true] (ls2 := [.null, .int 0, .int x0]) rfl ?_
  exact tX4_ones_c4 X _ _ _ _ hf
end
def fX4_refuse (x1 : Int32) (h : th_H) : Option (Int32 × th_H) :=
  th_rd h 1 5 x1 fun v1 =>
  th_wr h 1 5 x1 (v1 + 1) fun h2 =>
  some ((-1), h2)
def tbX4_refuse : List (Nat × Instr × Nat) := [(0, .aload_n 0, 1), (1, .getfield 9, 3), (4, .iload_n 1, 1), (5, .dup2, 1), (6, .iaload, 1), (7, .iconst 1, 1), (8, .iadd, 1), (9, .iastore, 1), (10, .iconst (-1), 1), (11, .ireturn, 1)]
theorem dtX4_refuse : th_dec cX4_refuse tbX4_refuse = true := by decide +kernel
section
variable {p0 : Program} {l : Launch} {e : Env} {s : State} {m : MethodId} {args : Array Value} {below : List Frame} {meth : Method} {c : Code} {D : va_G} {cI cZ : ClassId} {ad : Nat → Nat} {rr : Int32} {hh : th_H}
set_option maxHeartbeats 4000000 in
set_option maxRecDepth 100000 in
theorem mX4_refuse (l : Launch) (x1 : Int32) (h : th_H) (rr : Int32) (hh : th_H) (hf : fX4_refuse x1 h = some (rr, hh)) : th_MI l LM yX4_refuse cX4_refuse 2 (some .int) 0 0 [.ref 0, .int x1] h (some (.int rr)) hh := by
  refine th_MI_of (ls := [.ref 0, .int x1]) RX4 rfl rfl rfl (Nat.le_of_ble_eq_true rfl) ?_
  intro p0 e s m args below meth c D cI cZ ad X
  unfold fX4_refuse at hf
  refine V_aload_n (pc := 0) X (th_da dtX4_refuse 0 rfl) rfl ?_
  refine V_getR (pc := 1) (j := 1) (t := 1) X (th_da dtX4_refuse 1 rfl) wfl_X4_9 iX4 rfl rfl (Nat.le_of_ble_eq_true rfl) rfl ?_
  refine V_iload_n (pc := 4) X (th_da dtX4_refuse 2 rfl) rfl ?_
  refine V_dup2 (pc := 5) X (th_da dtX4_refuse 3 rfl) rfl rfl ?_
  obtain ⟨v1, e1, g1, hf⟩ := th_rd_some hf
  refine V_iald (pc := 6) X (th_da dtX4_refuse 4 rfl) rfl g1 e1 ?_
  refine V_iconst (pc := 7) (v := 1) X (th_da dtX4_refuse 5 rfl) (by decide) ?_
  refine V_iadd (pc := 8) X (th_da dtX4_refuse 6 rfl) ?_
  obtain ⟨h2, e2, g2, hf⟩ := th_wr_some hf
  refine V_iast (pc := 9) X (th_da dtX4_refuse 7 rfl) rfl g2 e2 ?_
  refine V_iconst (pc := 10) (v := (-1)) X (th_da dtX4_refuse 8 rfl) (by decide) ?_
  exact V_iretF (pc := 11) X (th_da dtX4_refuse 9 rfl) hf
end
def fX4_copy_c3 (a : Nat) (na : Nat) (b : Nat) (nb : Nat) : Nat → Int32 → Int32 → Int32 → th_H → Option (Unit × th_H)
  | 0, _, _, _, _ => none
  | n + 1, y1, y3, y4, h =>
    if (y4 < 643 : Prop) then
      th_rd h a na (y1 + y4) fun v2 =>
      th_wr h b nb (y3 + y4) v2 fun h3 =>
      fX4_copy_c3 a na b nb n y1 y3 (y4 + 1) h3
    else
      some ((), h)
def fX4_copy (a : Nat) (na : Nat) (b : Nat) (nb : Nat) (x1 : Int32) (x3 : Int32) (h : th_H) : Option (Unit × th_H) :=
  fX4_copy_c3 a na b nb 1000 x1 x3 0 h
def tbX4_copy : List (Nat × Instr × Nat) := [(0, .iconst 0, 1), (1, .istore 4, 2), (3, .iload 4, 2), (5, .sipush 643, 3), (8, .if_icmp .ge 21, 3), (11, .aload_n 2, 1), (12, .iload_n 3, 1), (13, .iload 4, 2), (15, .iadd, 1), (16, .aload_n 0, 1), (17, .iload_n 1, 1), (18, .iload 4, 2), (20, .iadd, 1), (21, .iaload, 1), (22, .iastore, 1), (23, .iinc 4 1, 3), (26, .goto (-23), 3), (29, .return_, 1)]
theorem dtX4_copy : th_dec cX4_copy tbX4_copy = true := by decide +kernel
section
variable {p0 : Program} {l : Launch} {e : Env} {s : State} {m : MethodId} {args : Array Value} {below : List Frame} {meth : Method} {c : Code} {D : va_G} {cI cZ : ClassId} {ad : Nat → Nat} {rr : Unit} {hh : th_H}
set_option maxHeartbeats 4000000 in
set_option maxRecDepth 100000 in
theorem tX4_copy_c3 (X : th_X p0 s m args meth c D cI cZ ad LM 5 RX4 cX4_copy none) (a : Nat) (na : Nat) (b : Nat) (nb : Nat) (ha : LM[a]? = some (.inl (na, false))) (hb : LM[b]? = some (.inl (nb, false))) : ∀ (n : Nat) (y1 : Int32) (y3 : Int32) (y4 : Int32) (h : th_H), fX4_copy_c3 a na b nb n y1 y3 y4 h = some (rr, hh) → th_V p0 l e { frames := 0, cells := 0, slots := 0, locals := 0 } s m args below meth c D cI cZ ad LM 5 none hh 3 [.ref a, .int y1, .ref b, .int y3, .int y4] [] h := by
  intro n
  induction n with
  | zero => intro y1 y3 y4 h hf; cases hf
  | succ n ih =>
    intro y1 y3 y4 h hf
    rw [fX4_copy_c3] at hf
    refine V_iload (pc := 3) X (th_da dtX4_copy 2 rfl) rfl ?_
    refine V_sipush (pc := 5) (v := 643) X (th_da dtX4_copy 3 rfl) (by decide) ?_
    refine V_icmp_ge (pc := 8) (tgt := 29) X (th_da dtX4_copy 4 rfl) (by decide) (fun c1 => ?_) (fun c1 => ?_)
    · rw [if_pos c1] at hf
      refine V_aload_n (pc := 11) X (th_da dtX4_copy 5 rfl) rfl ?_
      refine V_iload_n (pc := 12) X (th_da dtX4_copy 6 rfl) rfl ?_
      refine V_iload (pc := 13) X (th_da dtX4_copy 7 rfl) rfl ?_
      refine V_iadd (pc := 15) X (th_da dtX4_copy 8 rfl) ?_
      refine V_aload_n (pc := 16) X (th_da dtX4_copy 9 rfl) rfl ?_
      refine V_iload_n (pc := 17) X (th_da dtX4_copy 10 rfl) rfl ?_
      refine V_iload (pc := 18) X (th_da dtX4_copy 11 rfl) rfl ?_
      refine V_iadd (pc := 20) X (th_da dtX4_copy 12 rfl) ?_
      obtain ⟨v2, e2, g2, hf⟩ := th_rd_some hf
      refine V_iald (pc := 21) X (th_da dtX4_copy 13 rfl) ha g2 e2 ?_
      obtain ⟨h3, e3, g3, hf⟩ := th_wr_some hf
      refine V_iast (pc := 22) X (th_da dtX4_copy 14 rfl) hb g3 e3 ?_
      refine V_iinc (pc := 23) (v := y4 + 1) (ls2 := [.ref a, .int y1, .ref b, .int y3, .int (y4 + 1)]) X (th_da dtX4_copy 15 rfl) rfl rfl (Nat.le_of_ble_eq_true rfl) rfl rfl ?_
      refine V_goto (pc := 26) (tgt := 3) X (th_da dtX4_copy 16 rfl) (by decide) ?_
      exact ih _ _ _ _ hf
    · rw [if_neg c1] at hf
      exact V_vretF (pc := 29) X (th_da dtX4_copy 17 rfl) hf
set_option maxHeartbeats 4000000 in
set_option maxRecDepth 100000 in
theorem mX4_copy (l : Launch) (a : Nat) (na : Nat) (b : Nat) (nb : Nat) (ha : LM[a]? = some (.inl (na, false))) (hb : LM[b]? = some (.inl (nb, false))) (x1 : Int32) (x3 : Int32) (h : th_H) (rr : Unit) (hh : th_H) (hf : fX4_copy a na b nb x1 x3 h = some (rr, hh)) : th_MI l LM yX4_copy cX4_copy 5 none 0 0 [.ref a, .int x1, .ref b, .int x3] h none hh := by
  refine th_MI_of (ls := [.ref a, .int x1, .ref b, .int x3, .null]) RX4 rfl rfl rfl (Nat.le_of_ble_eq_true rfl) ?_
  intro p0 e s m args below meth c D cI cZ ad X
  unfold fX4_copy at hf
  refine V_iconst (pc := 0) (v := 0) X (th_da dtX4_copy 0 rfl) (by decide) ?_
  refine V_istore (pc := 1) (ls2 := [.ref a, .int x1, .ref b, .int x3, .int 0]) X (th_da dtX4_copy 1 rfl) (Nat.le_of_ble_eq_true rfl) rfl rfl ?_
  exact tX4_copy_c3 X _ _ _ _ ha hb _ _ _ _ _ hf
end
def fX4_think (h : th_H) : Option (Unit × th_H) :=
  th_bd (fX4_copy 2 643 5 643 0 0 h) fun _u1 h1 =>
  some ((), h1)
def tbX4_think : List (Nat × Instr × Nat) := [(0, .aload_n 0, 1), (1, .getfield 15, 3), (4, .iconst 0, 1), (5, .aload_n 0, 1), (6, .getfield 25, 3), (9, .iconst 0, 1), (10, .invokestatic 59, 3), (13, .return_, 1)]
theorem dtX4_think : th_dec cX4_think tbX4_think = true := by decide +kernel
section
variable {p0 : Program} {l : Launch} {e : Env} {s : State} {m : MethodId} {args : Array Value} {below : List Frame} {meth : Method} {c : Code} {D : va_G} {cI cZ : ClassId} {ad : Nat → Nat} {rr : Unit} {hh : th_H}
set_option maxHeartbeats 4000000 in
set_option maxRecDepth 100000 in
theorem mX4_think (l : Launch) (h : th_H) (rr : Unit) (hh : th_H) (hf : fX4_think h = some (rr, hh)) : th_MI l LM yX4_think cX4_think 1 none 1 24 [.ref 0] h none hh := by
  refine th_MI_of (ls := [.ref 0]) RX4 rfl rfl rfl (Nat.le_of_ble_eq_true rfl) ?_
  intro p0 e s m args below meth c D cI cZ ad X
  unfold fX4_think at hf
  refine V_aload_n (pc := 0) X (th_da dtX4_think 0 rfl) rfl ?_
  refine V_getR (pc := 1) (j := 2) (t := 2) X (th_da dtX4_think 1 rfl) wfl_X4_15 iX4 rfl rfl (Nat.le_of_ble_eq_true rfl) rfl ?_
  refine V_iconst (pc := 4) (v := 0) X (th_da dtX4_think 2 rfl) (by decide) ?_
  refine V_aload_n (pc := 5) X (th_da dtX4_think 3 rfl) rfl ?_
  refine V_getR (pc := 6) (j := 5) (t := 5) X (th_da dtX4_think 4 rfl) wfl_X4_25 iX4 rfl rfl (Nat.le_of_ble_eq_true rfl) rfl ?_
  refine V_iconst (pc := 9) (v := 0) X (th_da dtX4_think 5 rfl) (by decide) ?_
  obtain ⟨u1, h1, e1, hf⟩ := th_bd_some hf
  refine V_callSv (pc := 10) (As := [.ref 2, .int 0, .ref 5, .int 0]) X (th_da dtX4_think 6 rfl) (mX4_copy l 2 643 5 643 rfl rfl _ _ _ _ _ e1) wcd_X4_copy wml_X4_59 wst_X4_copy win_X4_copy hd_X4_copy ⟨Nat.le_of_ble_eq_true rfl, Nat.le_of_ble_eq_true rfl⟩ (Nat.le_of_ble_eq_true rfl) rfl ?_
  exact V_vretF (pc := 13) X (th_da dtX4_think 7 rfl) hf
end
def fX4_endThought (h : th_H) : Option (Unit × th_H) :=
  th_bd (fX4_copy 5 643 2 643 0 0 h) fun _u1 h1 =>
  some ((), h1)
def tbX4_endThought : List (Nat × Instr × Nat) := [(0, .aload_n 0, 1), (1, .getfield 25, 3), (4, .iconst 0, 1), (5, .aload_n 0, 1), (6, .getfield 15, 3), (9, .iconst 0, 1), (10, .invokestatic 59, 3), (13, .return_, 1)]
theorem dtX4_endThought : th_dec cX4_endThought tbX4_endThought = true := by decide +kernel
section
variable {p0 : Program} {l : Launch} {e : Env} {s : State} {m : MethodId} {args : Array Value} {below : List Frame} {meth : Method} {c : Code} {D : va_G} {cI cZ : ClassId} {ad : Nat → Nat} {rr : Unit} {hh : th_H}
set_option maxHeartbeats 4000000 in
set_option maxRecDepth 100000 in
theorem mX4_endThought (l : Launch) (h : th_H) (rr : Unit) (hh : th_H) (hf : fX4_endThought h = some (rr, hh)) : th_MI l LM yX4_endThought cX4_endThought 1 none 1 24 [.ref 0] h none hh := by
  refine th_MI_of (ls := [.ref 0]) RX4 rfl rfl rfl (Nat.le_of_ble_eq_true rfl) ?_
  intro p0 e s m args below meth c D cI cZ ad X
  unfold fX4_endThought at hf
  refine V_aload_n (pc := 0) X (th_da dtX4_endThought 0 rfl) rfl ?_
  refine V_getR (pc := 1) (j := 5) (t := 5) X (th_da dtX4_endThought 1 rfl) wfl_X4_25 iX4 rfl rfl (Nat.le_of_ble_eq_true rfl) rfl ?_
  refine V_iconst (pc := 4) (v := 0) X (th_da dtX4_endThought 2 rfl) (by decide) ?_
  refine V_aload_n (pc := 5) X (th_da dtX4_endThought 3 rfl) rfl ?_
  refine V_getR (pc := 6) (j := 2) (t := 2) X (th_da dtX4_endThought 4 rfl) wfl_X4_15 iX4 rfl rfl (Nat.le_of_ble_eq_true rfl) rfl ?_
  refine V_iconst (pc := 9) (v := 0) X (th_da dtX4_endThought 5 rfl) (by decide) ?_
  obtain ⟨u1, h1, e1, hf⟩ := th_bd_some hf
  refine V_callSv (pc := 10) (As := [.ref 5, .int 0, .ref 2, .int 0]) X (th_da dtX4_endThought 6 rfl) (mX4_copy l 5 643 2 643 rfl rfl _ _ _ _ _ e1) wcd_X4_copy wml_X4_59 wst_X4_copy win_X4_copy hd_X4_copy ⟨Nat.le_of_ble_eq_true rfl, Nat.le_of_ble_eq_true rfl⟩ (Nat.le_of_ble_eq_true rfl) rfl ?_
  exact V_vretF (pc := 13) X (th_da dtX4_endThought 7 rfl) hf
end
def fX4_keep (x1 : Int32) (h : th_H) : Option (Int32 × th_H) :=
  th_st (th_up h 0 0 0) fun h1 =>
  th_bd (fX4_in (Int32.toInt64 x1) 0 1 h1) fun u2 h2 =>
  if (u2 = 0 : Prop) then
    some (0, h2)
  else
    th_bd (fX4_copy 2 643 3 1286 0 ((643 : Int32) * x1) h2) fun _u4 h4 =>
    th_wr h4 4 2 x1 1 fun h5 =>
    some (1, h5)
def tbX4_keep : List (Nat × Instr × Nat) := [(0, .aload_n 0, 1), (1, .iconst 0, 1), (2, .putfield 55, 3), (5, .iload_n 1, 1), (6, .i2l, 1), (7, .lconst 0, 1), (8, .lconst 1, 1), (9, .invokestatic 63, 3), (12, .ifCond .ne 5, 3), (15, .iconst 0, 1), (16, .ireturn, 1), (17, .aload_n 0, 1), (18, .getfield 15, 3), (21, .iconst 0, 1), (22, .aload_n 0, 1), (23, .getfield 18, 3), (26, .sipush 643, 3), (29, .iload_n 1, 1), (30, .imul, 1), (31, .invokestatic 59, 3), (34, .aload_n 0, 1), (35, .getfield 21, 3), (38, .iload_n 1, 1), (39, .iconst 1, 1), (40, .bastore, 1), (41, .iconst 1, 1), (42, .ireturn, 1)]
theorem dtX4_keep : th_dec cX4_keep tbX4_keep = true := by decide +kernel
section
variable {p0 : Program} {l : Launch} {e : Env} {s : State} {m : MethodId} {args : Array Value} {below : List Frame} {meth : Method} {c : Code} {D : va_G} {cI cZ : ClassId} {ad : Nat → Nat} {rr : Int32} {hh : th_H}
set_option maxHeartbeats 4000000 in
set_option maxRecDepth 100000 in
theorem mX4_keep (l : Launch) (x1 : Int32) (h : th_H) (rr : Int32) (hh : th_H) (hf : fX4_keep x1 h = some (rr, hh)) : th_MI l LM yX4_keep cX4_keep 2 (some .boolean) 1 25 [.ref 0, .int x1] h (some (.int rr)) hh := by
  refine th_MI_of (ls := [.ref 0, .int x1]) RX4 rfl rfl rfl (Nat.le_of_ble_eq_true rfl) ?_
  intro p0 e s m args below meth c D cI cZ ad X
  unfold fX4_keep at hf
  refine V_aload_n (pc := 0) X (th_da dtX4_keep 0 rfl) rfl ?_
  refine V_iconst (pc := 1) (v := 0) X (th_da dtX4_keep 1 rfl) (by decide) ?_
  obtain ⟨h1, e1, hf⟩ := th_st_some hf
  refine V_putI (pc := 2) (j := 0) (ty := .int) X (th_da dtX4_keep 2 rfl) wfl_X4_55 iX4 rfl rfl (Nat.le_of_ble_eq_true rfl) rfl tyX4 tyX4_ok nmX4 rfl (tyX4_ok 0 (Nat.le_of_ble_eq_true rfl)) rfl rfl e1 ?_
  refine V_iload_n (pc := 5) X (th_da dtX4_keep 3 rfl) rfl ?_
  refine V_i2l (pc := 6) X (th_da dtX4_keep 4 rfl) ?_
  refine V_lconst (pc := 7) (v := 0) X (th_da dtX4_keep 5 rfl) (by decide) ?_
  refine V_lconst (pc := 8) (v := 1) X (th_da dtX4_keep 6 rfl) (by decide) ?_
  obtain ⟨u2, h2, e2, hf⟩ := th_bd_some hf
  refine V_callSi (pc := 9) (As := [.long (Int32.toInt64 x1), .long 0, .long 1]) X (th_da dtX4_keep 7 rfl) (mX4_in l _ _ _ _ _ _ e2) wcd_X4_in wml_X4_63 wst_X4_in win_X4_in hd_X4_in ⟨Nat.le_of_ble_eq_true rfl, Nat.le_of_ble_eq_true rfl⟩ (Nat.le_of_ble_eq_true rfl) rfl ?_
  refine V_if_ne (pc := 12) (tgt := 17) X (th_da dtX4_keep 8 rfl) (by decide) (fun c3 => ?_) (fun c3 => ?_)
  · rw [if_pos c3] at hf
    refine V_iconst (pc := 15) (v := 0) X (th_da dtX4_keep 9 rfl) (by decide) ?_
    exact V_zretF (pc := 16) X (th_da dtX4_keep 10 rfl) (Or.inl rfl) hf
  · rw [if_neg c3] at hf
    refine V_aload_n (pc := 17) X (th_da dtX4_keep 11 rfl) rfl ?_
    refine V_getR (pc := 18) (j := 2) (t := 2) X (th_da dtX4_keep 12 rfl) wfl_X4_15 iX4 rfl rfl (Nat.le_of_ble_eq_true rfl) rfl ?_
    refine V_iconst (pc := 21) (v := 0) X (th_da dtX4_keep 13 rfl) (by decide) ?_
    refine V_aload_n (pc := 22) X (th_da dtX4_keep 14 rfl) rfl ?_
    refine V_getR (pc := 23) (j := 3) (t := 3) X (th_da dtX4_keep 15 rfl) wfl_X4_18 iX4 rfl rfl (Nat.le_of_ble_eq_true rfl) rfl ?_
    refine V_sipush (pc := 26) (v := 643) X (th_da dtX4_keep 16 rfl) (by decide) ?_
    refine V_iload_n (pc := 29) X (th_da dtX4_keep 17 rfl) rfl ?_
    refine V_imul (pc := 30) X (th_da dtX4_keep 18 rfl) ?_
    obtain ⟨u4, h4, e4, hf⟩ := th_bd_some hf
    refine V_callSv (pc := 31) (As := [.ref 2, .int 0, .ref 3, .int ((643 : Int32) * x1)]) X (th_da dtX4_keep 19 rfl) (mX4_copy l 2 643 3 1286 rfl rfl _ _ _ _ _ e4) wcd_X4_copy wml_X4_59 wst_X4_copy win_X4_copy hd_X4_copy ⟨Nat.le_of_ble_eq_true rfl, Nat.le_of_ble_eq_true rfl⟩ (Nat.le_of_ble_eq_true rfl) rfl ?_
    refine V_aload_n (pc := 34) X (th_da dtX4_keep 20 rfl) rfl ?_
    refine V_getR (pc := 35) (j := 4) (t := 4) X (th_da dtX4_keep 21 rfl) wfl_X4_21 iX4 rfl rfl (Nat.le_of_ble_eq_true rfl) rfl ?_
    refine V_iload_n (pc := 38) X (th_da dtX4_keep 22 rfl) rfl ?_
    refine V_iconst (pc := 39) (v := 1) X (th_da dtX4_keep 23 rfl) (by decide) ?_
    obtain ⟨h5, e5, g5, hf⟩ := th_wr_some hf
    refine V_zast (pc := 40) X (th_da dtX4_keep 24 rfl) rfl g5 rfl e5 ?_
    refine V_iconst (pc := 41) (v := 1) X (th_da dtX4_keep 25 rfl) (by decide) ?_
    exact V_zretF (pc := 42) X (th_da dtX4_keep 26 rfl) (Or.inr rfl) hf
end
def fX4_again (x1 : Int32) (h : th_H) : Option (Int32 × th_H) :=
  th_st (th_up h 0 0 0) fun h1 =>
  th_bd (fX4_in (Int32.toInt64 x1) 0 1 h1) fun u2 h2 =>
  if (u2 = 0 : Prop) then
    some (0, h2)
  else
    th_rd h2 4 2 x1 fun v4 =>
    if (v4 = 0 : Prop) then
      some (0, h2)
    else
      th_bd (fX4_copy 3 1286 2 643 ((643 : Int32) * x1) 0 h2) fun _u6 h6 =>
      some (1, h6)
def tbX4_again : List (Nat × Instr × Nat) := [(0, .aload_n 0, 1), (1, .iconst 0, 1), (2, .putfield 55, 3), (5, .iload_n 1, 1), (6, .i2l, 1), (7, .lconst 0, 1), (8, .lconst 1, 1), (9, .invokestatic 63, 3), (12, .ifCond .eq 12, 3), (15, .aload_n 0, 1), (16, .getfield 21, 3), (19, .iload_n 1, 1), (20, .baload, 1), (21, .ifCond .ne 5, 3), (24, .iconst 0, 1), (25, .ireturn, 1), (26, .aload_n 0, 1), (27, .getfield 18, 3), (30, .sipush 643, 3), (33, .iload_n 1, 1), (34, .imul, 1), (35, .aload_n 0, 1), (36, .getfield 15, 3), (39, .iconst 0, 1), (40, .invokestatic 59, 3), (43, .iconst 1, 1), (44, .ireturn, 1)]
theorem dtX4_again : th_dec cX4_again tbX4_again = true := by decide +kernel
section
variable {p0 : Program} {l : Launch} {e : Env} {s : State} {m : MethodId} {args : Array Value} {below : List Frame} {meth : Method} {c : Code} {D : va_G} {cI cZ : ClassId} {ad : Nat → Nat} {rr : Int32} {hh : th_H}
set_option maxHeartbeats 4000000 in
set_option maxRecDepth 100000 in
theorem mX4_again (l : Launch) (x1 : Int32) (h : th_H) (rr : Int32) (hh : th_H) (hf : fX4_again x1 h = some (rr, hh)) : th_MI l LM yX4_again cX4_again 2 (some .boolean) 1 25 [.ref 0, .int x1] h (some (.int rr)) hh := by
  refine th_MI_of (ls := [.ref 0, .int x1]) RX4 rfl rfl rfl (Nat.le_of_ble_eq_true rfl) ?_
  intro p0 e s m args below meth c D cI cZ ad X
  unfold fX4_again at hf
  refine V_aload_n (pc := 0) X (th_da dtX4_again 0 rfl) rfl ?_
  refine V_iconst (pc := 1) (v := 0) X (th_da dtX4_again 1 rfl) (by decide) ?_
  obtain ⟨h1, e1, hf⟩ := th_st_some hf
  refine V_putI (pc := 2) (j := 0) (ty := .int) X (th_da dtX4_again 2 rfl) wfl_X4_55 iX4 rfl rfl (Nat.le_of_ble_eq_true rfl) rfl tyX4 tyX4_ok nmX4 rfl (tyX4_ok 0 (Nat.le_of_ble_eq_true rfl)) rfl rfl e1 ?_
  refine V_iload_n (pc := 5) X (th_da dtX4_again 3 rfl) rfl ?_
  refine V_i2l (pc := 6) X (th_da dtX4_again 4 rfl) ?_
  refine V_lconst (pc := 7) (v := 0) X (th_da dtX4_again 5 rfl) (by decide) ?_
  refine V_lconst (pc := 8) (v := 1) X (th_da dtX4_again 6 rfl) (by decide) ?_
  obtain ⟨u2, h2, e2, hf⟩ := th_bd_some hf
  refine V_callSi (pc := 9) (As := [.long (Int32.toInt64 x1), .long 0, .long 1]) X (th_da dtX4_again 7 rfl) (mX4_in l _ _ _ _ _ _ e2) wcd_X4_in wml_X4_63 wst_X4_in win_X4_in hd_X4_in ⟨Nat.le_of_ble_eq_true rfl, Nat.le_of_ble_eq_true rfl⟩ (Nat.le_of_ble_eq_true rfl) rfl ?_
  refine V_if_eq (pc := 12) (tgt := 24) X (th_da dtX4_again 8 rfl) (by decide) (fun c3 => ?_) (fun c3 => ?_)
  · rw [if_pos c3] at hf
    refine V_iconst (pc := 24) (v := 0) X (th_da dtX4_again 14 rfl) (by decide) ?_
    exact V_zretF (pc := 25) X (th_da dtX4_again 15 rfl) (Or.inl rfl) hf
  · rw [if_neg c3] at hf
    refine V_aload_n (pc := 15) X (th_da dtX4_again 9 rfl) rfl ?_
    refine V_getR (pc := 16) (j := 4) (t := 4) X (th_da dtX4_again 10 rfl) wfl_X4_21 iX4 rfl rfl (Nat.le_of_ble_eq_true rfl) rfl ?_
    refine V_iload_n (pc := 19) X (th_da dtX4_again 11 rfl) rfl ?_
    obtain ⟨v4, e4, g4, hf⟩ := th_rd_some hf
    refine V_zald (pc := 20) X (th_da dtX4_again 12 rfl) rfl g4 e4 ?_
    refine V_if_ne (pc := 21) (tgt := 26) X (th_da dtX4_again 13 rfl) (by decide) (fun c5 => ?_) (fun c5 => ?_)
    · rw [if_pos c5] at hf
      refine V_iconst (pc := 24) (v := 0) X (th_da dtX4_again 14 rfl) (by decide) ?_
      exact V_zretF (pc := 25) X (th_da dtX4_again 15 rfl) (Or.inl rfl) hf
    · rw [if_neg c5] at hf
      refine V_aload_n (pc := 26) X (th_da dtX4_again 16 rfl) rfl ?_
      refine V_getR (pc := 27) (j := 3) (t := 3) X (th_da dtX4_again 17 rfl) wfl_X4_18 iX4 rfl rfl (Nat.le_of_ble_eq_true rfl) rfl ?_
      refine V_sipush (pc := 30) (v := 643) X (th_da dtX4_again 18 rfl) (by decide) ?_
      refine V_iload_n (pc := 33) X (th_da dtX4_again 19 rfl) rfl ?_
      refine V_imul (pc := 34) X (th_da dtX4_again 20 rfl) ?_
      refine V_aload_n (pc := 35) X (th_da dtX4_again 21 rfl) rfl ?_
      refine V_getR (pc := 36) (j := 2) (t := 2) X (th_da dtX4_again 22 rfl) wfl_X4_15 iX4 rfl rfl (Nat.le_of_ble_eq_true rfl) rfl ?_
      refine V_iconst (pc := 39) (v := 0) X (th_da dtX4_again 23 rfl) (by decide) ?_
      obtain ⟨u6, h6, e6, hf⟩ := th_bd_some hf
      refine V_callSv (pc := 40) (As := [.ref 3, .int ((643 : Int32) * x1), .ref 2, .int 0]) X (th_da dtX4_again 24 rfl) (mX4_copy l 3 1286 2 643 rfl rfl _ _ _ _ _ e6) wcd_X4_copy wml_X4_59 wst_X4_copy win_X4_copy hd_X4_copy ⟨Nat.le_of_ble_eq_true rfl, Nat.le_of_ble_eq_true rfl⟩ (Nat.le_of_ble_eq_true rfl) rfl ?_
      refine V_iconst (pc := 43) (v := 1) X (th_da dtX4_again 25 rfl) (by decide) ?_
      exact V_zretF (pc := 44) X (th_da dtX4_again 26 rfl) (Or.inr rfl) hf
end
def fX4_at (x0 : Int32) (h : th_H) : Option (Int32 × th_H) :=
  some ((23 : Int32) + ((11 : Int32) * x0), h)
def tbX4_at : List (Nat × Instr × Nat) := [(0, .bipush 23, 2), (2, .bipush 11, 2), (4, .iload_n 0, 1), (5, .imul, 1), (6, .iadd, 1), (7, .ireturn, 1)]
theorem dtX4_at : th_dec cX4_at tbX4_at = true := by decide +kernel
section
variable {p0 : Program} {l : Launch} {e : Env} {s : State} {m : MethodId} {args : Array Value} {below : List Frame} {meth : Method} {c : Code} {D : va_G} {cI cZ : ClassId} {ad : Nat → Nat} {rr : Int32} {hh : th_H}
set_option maxHeartbeats 4000000 in
set_option maxRecDepth 100000 in
theorem mX4_at (l : Launch) (x0 : Int32) (h : th_H) (rr : Int32) (hh : th_H) (hf : fX4_at x0 h = some (rr, hh)) : th_MI l LM yX4_at cX4_at 1 (some .int) 0 0 [.int x0] h (some (.int rr)) hh := by
  refine th_MI_of (ls := [.int x0]) RX4 rfl rfl rfl (Nat.le_of_ble_eq_true rfl) ?_
  intro p0 e s m args below meth c D cI cZ ad X
  unfold fX4_at at hf
  refine V_bipush (pc := 0) (v := 23) X (th_da dtX4_at 0 rfl) (by decide) ?_
  refine V_bipush (pc := 2) (v := 11) X (th_da dtX4_at 1 rfl) (by decide) ?_
  refine V_iload_n (pc := 4) X (th_da dtX4_at 2 rfl) rfl ?_
  refine V_imul (pc := 5) X (th_da dtX4_at 3 rfl) ?_
  refine V_iadd (pc := 6) X (th_da dtX4_at 4 rfl) ?_
  exact V_iretF (pc := 7) X (th_da dtX4_at 5 rfl) hf
end
def fX4_isLink (x0 : Int32) (h : th_H) : Option (Int32 × th_H) :=
  th_bd (fX4_in (Int32.toInt64 x0) 0 9 h) fun u1 h1 =>
  th_gb u1 <|
  some (u1, h1)
def tbX4_isLink : List (Nat × Instr × Nat) := [(0, .iload_n 0, 1), (1, .i2l, 1), (2, .lconst 0, 1), (3, .ldc2_w 67, 3), (6, .invokestatic 63, 3), (9, .ireturn, 1)]
theorem dtX4_isLink : th_dec cX4_isLink tbX4_isLink = true := by decide +kernel
section
variable {p0 : Program} {l : Launch} {e : Env} {s : State} {m : MethodId} {args : Array Value} {below : List Frame} {meth : Method} {c : Code} {D : va_G} {cI cZ : ClassId} {ad : Nat → Nat} {rr : Int32} {hh : th_H}
set_option maxHeartbeats 4000000 in
set_option maxRecDepth 100000 in
theorem mX4_isLink (l : Launch) (x0 : Int32) (h : th_H) (rr : Int32) (hh : th_H) (hf : fX4_isLink x0 h = some (rr, hh)) : th_MI l LM yX4_isLink cX4_isLink 1 (some .boolean) 1 25 [.int x0] h (some (.int rr)) hh := by
  refine th_MI_of (ls := [.int x0]) RX4 rfl rfl rfl (Nat.le_of_ble_eq_true rfl) ?_
  intro p0 e s m args below meth c D cI cZ ad X
  unfold fX4_isLink at hf
  refine V_iload_n (pc := 0) X (th_da dtX4_isLink 0 rfl) rfl ?_
  refine V_i2l (pc := 1) X (th_da dtX4_isLink 1 rfl) ?_
  refine V_lconst (pc := 2) (v := 0) X (th_da dtX4_isLink 2 rfl) (by decide) ?_
  refine V_ldc2 (pc := 3) (v := 9) X (th_da dtX4_isLink 3 rfl) wcl_X4_67 ?_
  obtain ⟨u1, h1, e1, hf⟩ := th_bd_some hf
  refine V_callSi (pc := 6) (As := [.long (Int32.toInt64 x0), .long 0, .long 9]) X (th_da dtX4_isLink 4 rfl) (mX4_in l _ _ _ _ _ _ e1) wcd_X4_in wml_X4_63 wst_X4_in win_X4_in hd_X4_in ⟨Nat.le_of_ble_eq_true rfl, Nat.le_of_ble_eq_true rfl⟩ (Nat.le_of_ble_eq_true rfl) rfl ?_
  obtain ⟨g2, hf⟩ := th_gb_some hf
  exact V_zretF (pc := 9) X (th_da dtX4_isLink 5 rfl) g2 hf
end
def fX4_isFlow (x1 : Int32) (h : th_H) : Option (Int32 × th_H) :=
  th_bd (fX4_in (Int32.toInt64 x1) 0 19 h) fun u1 h1 =>
  if (u1 = 0 : Prop) then
    some (0, h1)
  else
    th_bd (fX4_at x1 h1) fun u3 h3 =>
    th_rd h3 2 643 u3 fun v4 =>
    if (v4 = 1 : Prop) then
      some (1, h3)
    else
      some (0, h3)
def tbX4_isFlow : List (Nat × Instr × Nat) := [(0, .iload_n 1, 1), (1, .i2l, 1), (2, .lconst 0, 1), (3, .ldc2_w 69, 3), (6, .invokestatic 63, 3), (9, .ifCond .eq 20, 3), (12, .aload_n 0, 1), (13, .getfield 15, 3), (16, .iload_n 1, 1), (17, .invokestatic 71, 3), (20, .iaload, 1), (21, .iconst 1, 1), (22, .if_icmp .ne 7, 3), (25, .iconst 1, 1), (26, .goto 4, 3), (29, .iconst 0, 1), (30, .ireturn, 1)]
theorem dtX4_isFlow : th_dec cX4_isFlow tbX4_isFlow = true := by decide +kernel
section
variable {p0 : Program} {l : Launch} {e : Env} {s : State} {m : MethodId} {args : Array Value} {below : List Frame} {meth : Method} {c : Code} {D : va_G} {cI cZ : ClassId} {ad : Nat → Nat} {rr : Int32} {hh : th_H}
set_option maxHeartbeats 4000000 in
set_option maxRecDepth 100000 in
theorem mX4_isFlow (l : Launch) (x1 : Int32) (h : th_H) (rr : Int32) (hh : th_H) (hf : fX4_isFlow x1 h = some (rr, hh)) : th_MI l LM yX4_isFlow cX4_isFlow 2 (some .boolean) 1 25 [.ref 0, .int x1] h (some (.int rr)) hh := by
  refine th_MI_of (ls := [.ref 0, .int x1]) RX4 rfl rfl rfl (Nat.le_of_ble_eq_true rfl) ?_
  intro p0 e s m args below meth c D cI cZ ad X
  unfold fX4_isFlow at hf
  refine V_iload_n (pc := 0) X (th_da dtX4_isFlow 0 rfl) rfl ?_
  refine V_i2l (pc := 1) X (th_da dtX4_isFlow 1 rfl) ?_
  refine V_lconst (pc := 2) (v := 0) X (th_da dtX4_isFlow 2 rfl) (by decide) ?_
  refine V_ldc2 (pc := 3) (v := 19) X (th_da dtX4_isFlow 3 rfl) wcl_X4_69 ?_
  obtain ⟨u1, h1, e1, hf⟩ := th_bd_some hf
  refine V_callSi (pc := 6) (As := [.long (Int32.toInt64 x1), .long 0, .long 19]) X (th_da dtX4_isFlow 4 rfl) (mX4_in l _ _ _ _ _ _ e1) wcd_X4_in wml_X4_63 wst_X4_in win_X4_in hd_X4_in ⟨Nat.le_of_ble_eq_true rfl, Nat.le_of_ble_eq_true rfl⟩ (Nat.le_of_ble_eq_true rfl) rfl ?_
  refine V_if_eq (pc := 9) (tgt := 29) X (th_da dtX4_isFlow 5 rfl) (by decide) (fun c2 => ?_) (fun c2 => ?_)
  · rw [if_pos c2] at hf
    refine V_iconst (pc := 29) (v := 0) X (th_da dtX4_isFlow 15 rfl) (by decide) ?_
    exact V_zretF (pc := 30) X (th_da dtX4_isFlow 16 rfl) (Or.inl rfl) hf
  · rw [if_neg c2] at hf
    refine V_aload_n (pc := 12) X (th_da dtX4_isFlow 6 rfl) rfl ?_
    refine V_getR (pc := 13) (j := 2) (t := 2) X (th_da dtX4_isFlow 7 rfl) wfl_X4_15 iX4 rfl rfl (Nat.le_of_ble_eq_true rfl) rfl ?_
    refine V_iload_n (pc := 16) X (th_da dtX4_isFlow 8 rfl) rfl ?_
    obtain ⟨u3, h3, e3, hf⟩ := th_bd_some hf
    refine V_callSi (pc := 17) (As := [.int x1]) X (th_da dtX4_isFlow 9 rfl) (mX4_at l _ _ _ _ e3) wcd_X4_at wml_X4_71 wst_X4_at win_X4_at hd_X4_at ⟨Nat.le_of_ble_eq_true rfl, Nat.le_of_ble_eq_true rfl⟩ (Nat.le_of_ble_eq_true rfl) rfl ?_
    obtain ⟨v4, e4, g4, hf⟩ := th_rd_some hf
    refine V_iald (pc := 20) X (th_da dtX4_isFlow 10 rfl) rfl g4 e4 ?_
    refine V_iconst (pc := 21) (v := 1) X (th_da dtX4_isFlow 11 rfl) (by decide) ?_
    refine V_icmp_ne (pc := 22) (tgt := 29) X (th_da dtX4_isFlow 12 rfl) (by decide) (fun c5 => ?_) (fun c5 => ?_)
    · rw [if_pos c5] at hf
      refine V_iconst (pc := 25) (v := 1) X (th_da dtX4_isFlow 13 rfl) (by decide) ?_
      refine V_goto (pc := 26) (tgt := 30) X (th_da dtX4_isFlow 14 rfl) (by decide) ?_
      exact V_zretF (pc := 30) X (th_da dtX4_isFlow 16 rfl) (Or.inr rfl) hf
    · rw [if_neg c5] at hf
      refine V_iconst (pc := 29) (v := 0) X (th_da dtX4_isFlow 15 rfl) (by decide) ?_
      exact V_zretF (pc := 30) X (th_da dtX4_isFlow 16 rfl) (Or.inl rfl) hf
end
def fX4_goesOver (x1 : Int32) (x2 : Int32) (h : th_H) : Option (Int32 × th_H) :=
  th_bd (fX4_at x1 h) fun u1 h1 =>
  th_rd h1 2 643 u1 fun v2 =>
  if (v2 = 1 : Prop) then
    th_bd (fX4_at x1 h1) fun u4 h4 =>
    th_rd h4 2 643 (u4 + 2) fun v5 =>
    if (((v5 >>> (x2 &&& 31)) &&& 1) = 1 : Prop) then
      some (1, h4)
    else
      some (0, h4)
  else
    some (0, h1)
def tbX4_goesOver : List (Nat × Instr × Nat) := [(0, .aload_n 0, 1), (1, .getfield 15, 3), (4, .iload_n 1, 1), (5, .invokestatic 71, 3), (8, .iaload, 1), (9, .iconst 1, 1), (10, .if_icmp .ne 26, 3), (13, .aload_n 0, 1), (14, .getfield 15, 3), (17, .iload_n 1, 1), (18, .invokestatic 71, 3), (21, .iconst 2, 1), (22, .iadd, 1), (23, .iaload, 1), (24, .iload_n 2, 1), (25, .ishr, 1), (26, .iconst 1, 1), (27, .iand, 1), (28, .iconst 1, 1), (29, .if_icmp .ne 7, 3), (32, .iconst 1, 1), (33, .goto 4, 3), (36, .iconst 0, 1), (37, .ireturn, 1)]
theorem dtX4_goesOver : th_dec cX4_goesOver tbX4_goesOver = true := by decide +kernel
section
variable {p0 : Program} {l : Launch} {e : Env} {s : State} {m : MethodId} {args : Array Value} {below : List Frame} {meth : Method} {c : Code} {D : va_G} {cI cZ : ClassId} {ad : Nat → Nat} {rr : Int32} {hh : th_H}
set_option maxHeartbeats 4000000 in
set_option maxRecDepth 100000 in
theorem mX4_goesOver (l : Launch) (x1 : Int32) (x2 : Int32) (h : th_H) (rr : Int32) (hh : th_H) (hf : fX4_goesOver x1 x2 h = some (rr, hh)) : th_MI l LM yX4_goesOver cX4_goesOver 3 (some .boolean) 1 20 [.ref 0, .int x1, .int x2] h (some (.int rr)) hh := by
  refine th_MI_of (ls := [.ref 0, .int x1, .int x2]) RX4 rfl rfl rfl (Nat.le_of_ble_eq_true rfl) ?_
  intro p0 e s m args below meth c D cI cZ ad X
  unfold fX4_goesOver at hf
  refine V_aload_n (pc := 0) X (th_da dtX4_goesOver 0 rfl) rfl ?_
  refine V_getR (pc := 1) (j := 2) (t := 2) X (th_da dtX4_goesOver 1 rfl) wfl_X4_15 iX4 rfl rfl (Nat.le_of_ble_eq_true rfl) rfl ?_
  refine V_iload_n (pc := 4) X (th_da dtX4_goesOver 2 rfl) rfl ?_
  obtain ⟨u1, h1, e1, hf⟩ := th_bd_some hf
  refine V_callSi (pc := 5) (As := [.int x1]) X (th_da dtX4_goesOver 3 rfl) (mX4_at l _ _ _ _ e1) wcd_X4_at wml_X4_71 wst_X4_at win_X4_at hd_X4_at ⟨Nat.le_of_ble_eq_true rfl, Nat.le_of_ble_eq_true rfl⟩ (Nat.le_of_ble_eq_true rfl) rfl ?_
  obtain ⟨v2, e2, g2, hf⟩ := th_rd_some hf
  refine V_iald (pc := 8) X (th_da dtX4_goesOver 4 rfl) rfl g2 e2 ?_
  refine V_iconst (pc := 9) (v := 1) X (th_da dtX4_goesOver 5 rfl) (by decide) ?_
  refine V_icmp_ne (pc := 10) (tgt := 36) X (th_da dtX4_goesOver 6 rfl) (by decide) (fun c3 => ?_) (fun c3 => ?_)
  · rw [if_pos c3] at hf
    refine V_aload_n (pc := 13) X (th_da dtX4_goesOver 7 rfl) rfl ?_
    refine V_getR (pc := 14) (j := 2) (t := 2) X (th_da dtX4_goesOver 8 rfl) wfl_X4_15 iX4 rfl rfl (Nat.le_of_ble_eq_true rfl) rfl ?_
    refine V_iload_n (pc := 17) X (th_da dtX4_goesOver 9 rfl) rfl ?_
    obtain ⟨u4, h4, e4, hf⟩ := th_bd_some hf
    refine V_callSi (pc := 18) (As := [.int x1]) X (th_da dtX4_goesOver 10 rfl) (mX4_at l _ _ _ _ e4) wcd_X4_at wml_X4_71 wst_X4_at win_X4_at hd_X4_at ⟨Nat.le_of_ble_eq_true rfl, Nat.le_of_ble_eq_true rfl⟩ (Nat.le_of_ble_eq_true rfl) rfl ?_
    refine V_iconst (pc := 21) (v := 2) X (th_da dtX4_goesOver 11 rfl) (by decide) ?_
    refine V_iadd (pc := 22) X (th_da dtX4_goesOver 12 rfl) ?_
    obtain ⟨v5, e5, g5, hf⟩ := th_rd_some hf
    refine V_iald (pc := 23) X (th_da dtX4_goesOver 13 rfl) rfl g5 e5 ?_
    refine V_iload_n (pc := 24) X (th_da dtX4_goesOver 14 rfl) rfl ?_
    refine V_ishr (pc := 25) X (th_da dtX4_goesOver 15 rfl) ?_
    refine V_iconst (pc := 26) (v := 1) X (th_da dtX4_goesOver 16 rfl) (by decide) ?_
    refine V_iand (pc := 27) X (th_da dtX4_goesOver 17 rfl) ?_
    refine V_iconst (pc := 28) (v := 1) X (th_da dtX4_goesOver 18 rfl) (by decide) ?_
    refine V_icmp_ne (pc := 29) (tgt := 36) X (th_da dtX4_goesOver 19 rfl) (by decide) (fun c6 => ?_) (fun c6 => ?_)
    · rw [if_pos c6] at hf
      refine V_iconst (pc := 32) (v := 1) X (th_da dtX4_goesOver 20 rfl) (by decide) ?_
      refine V_goto (pc := 33) (tgt := 37) X (th_da dtX4_goesOver 21 rfl) (by decide) ?_
      exact V_zretF (pc := 37) X (th_da dtX4_goesOver 23 rfl) (Or.inr rfl) hf
    · rw [if_neg c6] at hf
      refine V_iconst (pc := 36) (v := 0) X (th_da dtX4_goesOver 22 rfl) (by decide) ?_
      exact V_zretF (pc := 37) X (th_da dtX4_goesOver 23 rfl) (Or.inl rfl) hf
  · rw [if_neg c3] at hf
    refine V_iconst (pc := 36) (v := 0) X (th_da dtX4_goesOver 22 rfl) (by decide) ?_
    exact V_zretF (pc := 37) X (th_da dtX4_goesOver 23 rfl) (Or.inl rfl) hf
end
def fX4_flowMany_c4 : Nat → Int32 → Int32 → th_H → Option (Int32 × th_H)
  | 0, _, _, _ => none
  | n + 1, y1, y2, h =>
    if (y2 < 20 : Prop) then
      th_bd (fX4_at y2 h) fun u2 h2 =>
      th_rd h2 2 643 u2 fun v3 =>
      fX4_flowMany_c4 n (y1 + v3) (y2 + 1) h2
    else
      some (y1, h)
def fX4_flowMany (h : th_H) : Option (Int32 × th_H) :=
  fX4_flowMany_c4 1000 0 0 h
def tbX4_flowMany : List (Nat × Instr × Nat) := [(0, .iconst 0, 1), (1, .istore_n 1, 1), (2, .iconst 0, 1), (3, .istore_n 2, 1), (4, .iload_n 2, 1), (5, .bipush 20, 2), (7, .if_icmp .ge 21, 3), (10, .iload_n 1, 1), (11, .aload_n 0, 1), (12, .getfield 15, 3), (15, .iload_n 2, 1), (16, .invokestatic 71, 3), (19, .iaload, 1), (20, .iadd, 1), (21, .istore_n 1, 1), (22, .iinc 2 1, 3), (25, .goto (-21), 3), (28, .iload_n 1, 1), (29, .ireturn, 1)]
theorem dtX4_flowMany : th_dec cX4_flowMany tbX4_flowMany = true := by decide +kernel
section
variable {p0 : Program} {l : Launch} {e : Env} {s : State} {m : MethodId} {args : Array Value} {below : List Frame} {meth : Method} {c : Code} {D : va_G} {cI cZ : ClassId} {ad : Nat → Nat} {rr : Int32} {hh : th_H}
set_option maxHeartbeats 4000000 in
set_option maxRecDepth 100000 in
theorem tX4_flowMany_c4 (X : th_X p0 s m args meth c D cI cZ ad LM 3 RX4 cX4_flowMany (some .int)) : ∀ (n : Nat) (y1 : Int32) (y2 : Int32) (h : th_H), fX4_flowMany_c4 n y1 y2 h = some (rr, hh) → th_V p0 l e { frames := 1, cells := 0, slots := 0, locals := 20 } s m args below meth c D cI cZ ad LM 3 (some (.int rr)) hh 4 [.ref 0, .int y1, .int y2] [] h := by
  intro n
  induction n with
  | zero => intro y1 y2 h hf; cases hf
  | succ n ih =>
    intro y1 y2 h hf
    rw [fX4_flowMany_c4] at hf
    refine V_iload_n (pc := 4) X (th_da dtX4_flowMany 4 rfl) rfl ?_
    refine V_bipush (pc := 5) (v := 20) X (th_da dtX4_flowMany 5 rfl) (by decide) ?_
    refine V_icmp_ge (pc := 7) (tgt := 28) X (th_da dtX4_flowMany 6 rfl) (by decide) (fun c1 => ?_) (fun c1 => ?_)
    · rw [if_pos c1] at hf
      refine V_iload_n (pc := 10) X (th_da dtX4_flowMany 7 rfl) rfl ?_
      refine V_aload_n (pc := 11) X (th_da dtX4_flowMany 8 rfl) rfl ?_
      refine V_getR (pc := 12) (j := 2) (t := 2) X (th_da dtX4_flowMany 9 rfl) wfl_X4_15 iX4 rfl rfl (Nat.le_of_ble_eq_true rfl) rfl ?_
      refine V_iload_n (pc := 15) X (th_da dtX4_flowMany 10 rfl) rfl ?_
      obtain ⟨u2, h2, e2, hf⟩ := th_bd_some hf
      refine V_callSi (pc := 16) (As := [.int y2]) X (th_da dtX4_flowMany 11 rfl) (mX4_at l _ _ _ _ e2) wcd_X4_at wml_X4_71 wst_X4_at win_X4_at hd_X4_at ⟨Nat.le_of_ble_eq_true rfl, Nat.le_of_ble_eq_true rfl⟩ (Nat.le_of_ble_eq_true rfl) rfl ?_
      obtain ⟨v3, e3, g3, hf⟩ := th_rd_some hf
      refine V_iald (pc := 19) X (th_da dtX4_flowMany 12 rfl) rfl g3 e3 ?_
      refine V_iadd (pc := 20) X (th_da dtX4_flowMany 13 rfl) ?_
      refine V_istore_n (pc := 21) (ls2 := [.ref 0, .int (y1 + v3), .int y2]) X (th_da dtX4_flowMany 14 rfl) (Nat.le_of_ble_eq_true rfl) rfl rfl ?_
      refine V_iinc (pc := 22) (v := y2 + 1) (ls2 := [.ref 0, .int (y1 + v3), .int (y2 + 1)]) X (th_da dtX4_flowMany 15 rfl) rfl rfl (Nat.le_of_ble_eq_true rfl) rfl rfl ?_
      refine V_goto (pc := 25) (tgt := 4) X (th_da dtX4_flowMany 16 rfl) (by decide) ?_
      exact ih _ _ _ hf
    · rw [if_neg c1] at hf
      refine V_iload_n (pc := 28) X (th_da dtX4_flowMany 17 rfl) rfl ?_
      exact V_iretF (pc := 29) X (th_da dtX4_flowMany 18 rfl) hf
set_option maxHeartbeats 4000000 in
set_option maxRecDepth 100000 in
theorem mX4_flowMany (l : Launch) (h : th_H) (rr : Int32) (hh : th_H) (hf : fX4_flowMany h = some (rr, hh)) : th_MI l LM yX4_flowMany cX4_flowMany 3 (some .int) 1 20 [.ref 0] h (some (.int rr)) hh := by
  refine th_MI_of (ls := [.ref 0, .null, .null]) RX4 rfl rfl rfl (Nat.le_of_ble_eq_true rfl) ?_
  intro p0 e s m args below meth c D cI cZ ad X
  unfold fX4_flowMany at hf
  refine V_iconst (pc := 0) (v := 0) X (th_da dtX4_flowMany 0 rfl) (by decide) ?_
  refine V_istore_n (pc := 1) (ls2 := [.ref 0, .int 0, .null]) X (th_da dtX4_flowMany 1 rfl) (Nat.le_of_ble_eq_true rfl) rfl rfl ?_
  refine V_iconst (pc := 2) (v := 0) X (th_da dtX4_flowMany 2 rfl) (by decide) ?_
  refine V_istore_n (pc := 3) (ls2 := [.ref 0, .int 0, .int 0]) X (th_da dtX4_flowMany 3 rfl) (Nat.le_of_ble_eq_true rfl) rfl rfl ?_
  exact tX4_flowMany_c4 X _ _ _ _ hf
end
def fX4_rate (x1 : Int32) (x2 : Int32) (h : th_H) : Option (Int32 × th_H) :=
  th_bd (fX4_at x1 h) fun u1 h1 =>
  th_rd h1 2 643 (u1 + 3) fun v2 =>
  th_bd (fX4_at x1 h1) fun u3 h3 =>
  th_rd h3 2 643 (u3 + 4) fun v4 =>
  if (v4 < (v2 * x2) : Prop) then
    some (v2 * x2, h3)
  else
    th_bd (fX4_at x1 h3) fun u6 h6 =>
    th_rd h6 2 643 (u6 + 4) fun v7 =>
    some (v7, h6)
def tbX4_rate : List (Nat × Instr × Nat) := [(0, .aload_n 0, 1), (1, .getfield 15, 3), (4, .iload_n 1, 1), (5, .invokestatic 71, 3), (8, .iconst 3, 1), (9, .iadd, 1), (10, .iaload, 1), (11, .iload_n 2, 1), (12, .imul, 1), (13, .istore_n 3, 1), (14, .iload_n 3, 1), (15, .aload_n 0, 1), (16, .getfield 15, 3), (19, .iload_n 1, 1), (20, .invokestatic 71, 3), (23, .iconst 4, 1), (24, .iadd, 1), (25, .iaload, 1), (26, .if_icmp .le 7, 3), (29, .iload_n 3, 1), (30, .goto 14, 3), (33, .aload_n 0, 1), (34, .getfield 15, 3), (37, .iload_n 1, 1), (38, .invokestatic 71, 3), (41, .iconst 4, 1), (42, .iadd, 1), (43, .iaload, 1), (44, .ireturn, 1)]
theorem dtX4_rate : th_dec cX4_rate tbX4_rate = true := by decide +kernel
section
variable {p0 : Program} {l : Launch} {e : Env} {s : State} {m : MethodId} {args : Array Value} {below : List Frame} {meth : Method} {c : Code} {D : va_G} {cI cZ : ClassId} {ad : Nat → Nat} {rr : Int32} {hh : th_H}
set_option maxHeartbeats 4000000 in
set_option maxRecDepth 100000 in
theorem mX4_rate (l : Launch) (x1 : Int32) (x2 : Int32) (h : th_H) (rr : Int32) (hh : th_H) (hf : fX4_rate x1 x2 h = some (rr, hh)) : th_MI l LM yX4_rate cX4_rate 4 (some .int) 1 20 [.ref 0, .int x1, .int x2] h (some (.int rr)) hh := by
  refine th_MI_of (ls := [.ref 0, .int x1, .int x2, .null]) RX4 rfl rfl rfl (Nat.le_of_ble_eq_true rfl) ?_
  intro p0 e s m args below meth c D cI cZ ad X
  unfold fX4_rate at hf
  refine V_aload_n (pc := 0) X (th_da dtX4_rate 0 rfl) rfl ?_
  refine V_getR (pc := 1) (j := 2) (t := 2) X (th_da dtX4_rate 1 rfl) wfl_X4_15 iX4 rfl rfl (Nat.le_of_ble_eq_true rfl) rfl ?_
  refine V_iload_n (pc := 4) X (th_da dtX4_rate 2 rfl) rfl ?_
  obtain ⟨u1, h1, e1, hf⟩ := th_bd_some hf
  refine V_callSi (pc := 5) (As := [.int x1]) X (th_da dtX4_rate 3 rfl) (mX4_at l _ _ _ _ e1) wcd_X4_at wml_X4_71 wst_X4_at win_X4_at hd_X4_at ⟨Nat.le_of_ble_eq_true rfl, Nat.le_of_ble_eq_true rfl⟩ (Nat.le_of_ble_eq_true rfl) rfl ?_
  refine V_iconst (pc := 8) (v := 3) X (th_da dtX4_rate 4 rfl) (by decide) ?_
  refine V_iadd (pc := 9) X (th_da dtX4_rate 5 rfl) ?_
  obtain ⟨v2, e2, g2, hf⟩ := th_rd_some hf
  refine V_iald (pc := 10) X (th_da dtX4_rate 6 rfl) rfl g2 e2 ?_
  refine V_iload_n (pc := 11) X (th_da dtX4_rate 7 rfl) rfl ?_
  refine V_imul (pc := 12) X (th_da dtX4_rate 8 rfl) ?_
  refine V_istore_n (pc := 13) (ls2 := [.ref 0, .int x1, .int x2, .int (v2 * x2)]) X (th_da dtX4_rate 9 rfl) (Nat.le_of_ble_eq_true rfl) rfl rfl ?_
  refine V_iload_n (pc := 14) X (th_da dtX4_rate 10 rfl) rfl ?_
  refine V_aload_n (pc := 15) X (th_da dtX4_rate 11 rfl) rfl ?_
  refine V_getR (pc := 16) (j := 2) (t := 2) X (th_da dtX4_rate 12 rfl) wfl_X4_15 iX4 rfl rfl (Nat.le_of_ble_eq_true rfl) rfl ?_
  refine V_iload_n (pc := 19) X (th_da dtX4_rate 13 rfl) rfl ?_
  obtain ⟨u3, h3, e3, hf⟩ := th_bd_some hf
  refine V_callSi (pc := 20) (As := [.int x1]) X (th_da dtX4_rate 14 rfl) (mX4_at l _ _ _ _ e3) wcd_X4_at wml_X4_71 wst_X4_at win_X4_at hd_X4_at ⟨Nat.le_of_ble_eq_true rfl, Nat.le_of_ble_eq_true rfl⟩ (Nat.le_of_ble_eq_true rfl) rfl ?_
  refine V_iconst (pc := 23) (v := 4) X (th_da dtX4_rate 15 rfl) (by decide) ?_
  refine V_iadd (pc := 24) X (th_da dtX4_rate 16 rfl) ?_
  obtain ⟨v4, e4, g4, hf⟩ := th_rd_some hf
  refine V_iald (pc := 25) X (th_da dtX4_rate 17 rfl) rfl g4 e4 ?_
  refine V_icmp_le (pc := 26) (tgt := 33) X (th_da dtX4_rate 18 rfl) (by decide) (fun c5 => ?_) (fun c5 => ?_)
  · rw [if_pos c5] at hf
    refine V_iload_n (pc := 29) X (th_da dtX4_rate 19 rfl) rfl ?_
    refine V_goto (pc := 30) (tgt := 44) X (th_da dtX4_rate 20 rfl) (by decide) ?_
    exact V_iretF (pc := 44) X (th_da dtX4_rate 28 rfl) hf
  · rw [if_neg c5] at hf
    refine V_aload_n (pc := 33) X (th_da dtX4_rate 21 rfl) rfl ?_
    refine V_getR (pc := 34) (j := 2) (t := 2) X (th_da dtX4_rate 22 rfl) wfl_X4_15 iX4 rfl rfl (Nat.le_of_ble_eq_true rfl) rfl ?_
    refine V_iload_n (pc := 37) X (th_da dtX4_rate 23 rfl) rfl ?_
    obtain ⟨u6, h6, e6, hf⟩ := th_bd_some hf
    refine V_callSi (pc := 38) (As := [.int x1]) X (th_da dtX4_rate 24 rfl) (mX4_at l _ _ _ _ e6) wcd_X4_at wml_X4_71 wst_X4_at win_X4_at hd_X4_at ⟨Nat.le_of_ble_eq_true rfl, Nat.le_of_ble_eq_true rfl⟩ (Nat.le_of_ble_eq_true rfl) rfl ?_
    refine V_iconst (pc := 41) (v := 4) X (th_da dtX4_rate 25 rfl) (by decide) ?_
    refine V_iadd (pc := 42) X (th_da dtX4_rate 26 rfl) ?_
    obtain ⟨v7, e7, g7, hf⟩ := th_rd_some hf
    refine V_iald (pc := 43) X (th_da dtX4_rate 27 rfl) rfl g7 e7 ?_
    exact V_iretF (pc := 44) X (th_da dtX4_rate 28 rfl) hf
end
def fX4_own (x1 : Int32) (h : th_H) : Option (Int32 × th_H) :=
  th_bd (fX4_at x1 h) fun u1 h1 =>
  th_rd h1 2 643 (u1 + 5) fun v2 =>
  th_bd (fX4_at x1 h1) fun u3 h3 =>
  th_rd h3 2 643 (u3 + 3) fun v4 =>
  th_dv v4 <|
  some (v2 / v4, h3)
def tbX4_own : List (Nat × Instr × Nat) := [(0, .aload_n 0, 1), (1, .getfield 15, 3), (4, .iload_n 1, 1), (5, .invokestatic 71, 3), (8, .iconst 5, 1), (9, .iadd, 1), (10, .iaload, 1), (11, .aload_n 0, 1), (12, .getfield 15, 3), (15, .iload_n 1, 1), (16, .invokestatic 71, 3), (19, .iconst 3, 1), (20, .iadd, 1), (21, .iaload, 1), (22, .idiv, 1), (23, .ireturn, 1)]
theorem dtX4_own : th_dec cX4_own tbX4_own = true := by decide +kernel
section
variable {p0 : Program} {l : Launch} {e : Env} {s : State} {m : MethodId} {args : Array Value} {below : List Frame} {meth : Method} {c : Code} {D : va_G} {cI cZ : ClassId} {ad : Nat → Nat} {rr : Int32} {hh : th_H}
set_option maxHeartbeats 4000000 in
set_option maxRecDepth 100000 in
theorem mX4_own (l : Launch) (x1 : Int32) (h : th_H) (rr : Int32) (hh : th_H) (hf : fX4_own x1 h = some (rr, hh)) : th_MI l LM yX4_own cX4_own 2 (some .int) 1 20 [.ref 0, .int x1] h (some (.int rr)) hh := by
  refine th_MI_of (ls := [.ref 0, .int x1]) RX4 rfl rfl rfl (Nat.le_of_ble_eq_true rfl) ?_
  intro p0 e s m args below meth c D cI cZ ad X
  unfold fX4_own at hf
  refine V_aload_n (pc := 0) X (th_da dtX4_own 0 rfl) rfl ?_
  refine V_getR (pc := 1) (j := 2) (t := 2) X (th_da dtX4_own 1 rfl) wfl_X4_15 iX4 rfl rfl (Nat.le_of_ble_eq_true rfl) rfl ?_
  refine V_iload_n (pc := 4) X (th_da dtX4_own 2 rfl) rfl ?_
  obtain ⟨u1, h1, e1, hf⟩ := th_bd_some hf
  refine V_callSi (pc := 5) (As := [.int x1]) X (th_da dtX4_own 3 rfl) (mX4_at l _ _ _ _ e1) wcd_X4_at wml_X4_71 wst_X4_at win_X4_at hd_X4_at ⟨Nat.le_of_ble_eq_true rfl, Nat.le_of_ble_eq_true rfl⟩ (Nat.le_of_ble_eq_true rfl) rfl ?_
  refine V_iconst (pc := 8) (v := 5) X (th_da dtX4_own 4 rfl) (by decide) ?_
  refine V_iadd (pc := 9) X (th_da dtX4_own 5 rfl) ?_
  obtain ⟨v2, e2, g2, hf⟩ := th_rd_some hf
  refine V_iald (pc := 10) X (th_da dtX4_own 6 rfl) rfl g2 e2 ?_
  refine V_aload_n (pc := 11) X (th_da dtX4_own 7 rfl) rfl ?_
  refine V_getR (pc := 12) (j := 2) (t := 2) X (th_da dtX4_own 8 rfl) wfl_X4_15 iX4 rfl rfl (Nat.le_of_ble_eq_true rfl) rfl ?_
  refine V_iload_n (pc := 15) X (th_da dtX4_own 9 rfl) rfl ?_
  obtain ⟨u3, h3, e3, hf⟩ := th_bd_some hf
  refine V_callSi (pc := 16) (As := [.int x1]) X (th_da dtX4_own 10 rfl) (mX4_at l _ _ _ _ e3) wcd_X4_at wml_X4_71 wst_X4_at win_X4_at hd_X4_at ⟨Nat.le_of_ble_eq_true rfl, Nat.le_of_ble_eq_true rfl⟩ (Nat.le_of_ble_eq_true rfl) rfl ?_
  refine V_iconst (pc := 19) (v := 3) X (th_da dtX4_own 11 rfl) (by decide) ?_
  refine V_iadd (pc := 20) X (th_da dtX4_own 12 rfl) ?_
  obtain ⟨v4, e4, g4, hf⟩ := th_rd_some hf
  refine V_iald (pc := 21) X (th_da dtX4_own 13 rfl) rfl g4 e4 ?_
  obtain ⟨g5, hf⟩ := th_dv_some hf
  refine V_idiv (pc := 22) X (th_da dtX4_own 14 rfl) g5 ?_
  exact V_iretF (pc := 23) X (th_da dtX4_own 15 rfl) hf
end
def fX4_bound_c4 : Nat → Int32 → Int32 → Int32 → th_H → Option (Int32 × th_H)
  | 0, _, _, _, _ => none
  | n + 1, y1, y2, y3, h =>
    if (y3 < 20 : Prop) then
      th_bd (fX4_goesOver y3 y1 h) fun u2 h2 =>
      if (u2 = 0 : Prop) then
        fX4_bound_c4 n y1 (y2 + 0) (y3 + 1) h2
      else
        th_bd (fX4_at y3 h2) fun u4 h4 =>
        th_rd h4 2 643 (u4 + 4) fun v5 =>
        fX4_bound_c4 n y1 (y2 + v5) (y3 + 1) h4
    else
      some (y2, h)
def fX4_bound (x1 : Int32) (h : th_H) : Option (Int32 × th_H) :=
  fX4_bound_c4 1000 x1 0 0 h
def tbX4_bound : List (Nat × Instr × Nat) := [(0, .iconst 0, 1), (1, .istore_n 2, 1), (2, .iconst 0, 1), (3, .istore_n 3, 1), (4, .iload_n 3, 1), (5, .bipush 20, 2), (7, .if_icmp .ge 36, 3), (10, .iload_n 2, 1), (11, .aload_n 0, 1), (12, .iload_n 3, 1), (13, .iload_n 1, 1), (14, .invokevirtual 75, 3), (17, .ifCond .eq 17, 3), (20, .aload_n 0, 1), (21, .getfield 15, 3), (24, .iload_n 3, 1), (25, .invokestatic 71, 3), (28, .iconst 4, 1), (29, .iadd, 1), (30, .iaload, 1), (31, .goto 4, 3), (34, .iconst 0, 1), (35, .iadd, 1), (36, .istore_n 2, 1), (37, .iinc 3 1, 3), (40, .goto (-36), 3), (43, .iload_n 2, 1), (44, .ireturn, 1)]
theorem dtX4_bound : th_dec cX4_bound tbX4_bound = true := by decide +kernel
section
variable {p0 : Program} {l : Launch} {e : Env} {s : State} {m : MethodId} {args : Array Value} {below : List Frame} {meth : Method} {c : Code} {D : va_G} {cI cZ : ClassId} {ad : Nat → Nat} {rr : Int32} {hh : th_H}
set_option maxHeartbeats 4000000 in
set_option maxRecDepth 100000 in
theorem tX4_bound_c4 (X : th_X p0 s m args meth c D cI cZ ad LM 4 RX4 cX4_bound (some .int)) : ∀ (n : Nat) (y1 : Int32) (y2 : Int32) (y3 : Int32) (h : th_H), fX4_bound_c4 n y1 y2 y3 h = some (rr, hh) → th_V p0 l e { frames := 2, cells := 0, slots := 0, locals := 42 } s m args below meth c D cI cZ ad LM 4 (some (.int rr)) hh 4 [.ref 0, .int y1, .int y2, .int y3] [] h := by
  intro n
  induction n with
  | zero => intro y1 y2 y3 h hf; cases hf
  | succ n ih =>
    intro y1 y2 y3 h hf
    rw [fX4_bound_c4] at hf
    refine V_iload_n (pc := 4) X (th_da dtX4_bound 4 rfl) rfl ?_
    refine V_bipush (pc := 5) (v := 20) X (th_da dtX4_bound 5 rfl) (by decide) ?_
    refine V_icmp_ge (pc := 7) (tgt := 43) X (th_da dtX4_bound 6 rfl) (by decide) (fun c1 => ?_) (fun c1 => ?_)
    · rw [if_pos c1] at hf
      refine V_iload_n (pc := 10) X (th_da dtX4_bound 7 rfl) rfl ?_
      refine V_aload_n (pc := 11) X (th_da dtX4_bound 8 rfl) rfl ?_
      refine V_iload_n (pc := 12) X (th_da dtX4_bound 9 rfl) rfl ?_
      refine V_iload_n (pc := 13) X (th_da dtX4_bound 10 rfl) rfl ?_
      obtain ⟨u2, h2, e2, hf⟩ := th_bd_some hf
      refine V_callVi (pc := 14) (q := 0) (As := [.int y3, .int y1]) X (th_da dtX4_bound 11 rfl) (mX4_goesOver l _ _ _ _ _ e2) wcd_X4_goesOver wml_X4_75 wim_X4_goesOver wse_X4_goesOver win_X4_goesOver hd_X4_goesOver ⟨Nat.le_of_ble_eq_true rfl, Nat.le_of_ble_eq_true rfl⟩ (Nat.le_of_ble_eq_true rfl) rfl rfl rfl ?_
      refine V_if_eq (pc := 17) (tgt := 34) X (th_da dtX4_bound 12 rfl) (by decide) (fun c3 => ?_) (fun c3 => ?_)
      · rw [if_pos c3] at hf
        refine V_iconst (pc := 34) (v := 0) X (th_da dtX4_bound 21 rfl) (by decide) ?_
        refine V_iadd (pc := 35) X (th_da dtX4_bound 22 rfl) ?_
        refine V_istore_n (pc := 36) (ls2 := [.ref 0, .int y1, .int (y2 + 0), .int y3]) X (th_da dtX4_bound 23 rfl) (Nat.le_of_ble_eq_true rfl) rfl rfl ?_
        refine V_iinc (pc := 37) (v := y3 + 1) (ls2 := [.ref 0, .int y1, .int (y2 + 0), .int (y3 + 1)]) X (th_da dtX4_bound 24 rfl) rfl rfl (Nat.le_of_ble_eq_true rfl) rfl rfl ?_
        refine V_goto (pc := 40) (tgt := 4) X (th_da dtX4_bound 25 rfl) (by decide) ?_
        exact ih _ _ _ _ hf
      · rw [if_neg c3] at hf
        refine V_aload_n (pc := 20) X (th_da dtX4_bound 13 rfl) rfl ?_
        refine V_getR (pc := 21) (j := 2) (t := 2) X (th_da dtX4_bound 14 rfl) wfl_X4_15 iX4 rfl rfl (Nat.le_of_ble_eq_true rfl) rfl ?_
        refine V_iload_n (pc := 24) X (th_da dtX4_bound 15 rfl) rfl ?_
        obtain ⟨u4, h4, e4, hf⟩ := th_bd_some hf
        refine V_callSi (pc := 25) (As := [.int y3]) X (th_da dtX4_bound 16 rfl) (mX4_at l _ _ _ _ e4) wcd_X4_at wml_X4_71 wst_X4_at win_X4_at hd_X4_at ⟨Nat.le_of_ble_eq_true rfl, Nat.le_of_ble_eq_true rfl⟩ (Nat.le_of_ble_eq_true rfl) rfl ?_
        refine V_iconst (pc := 28) (v := 4) X (th_da dtX4_bound 17 rfl) (by decide) ?_
        refine V_iadd (pc := 29) X (th_da dtX4_bound 18 rfl) ?_
        obtain ⟨v5, e5, g5, hf⟩ := th_rd_some hf
        refine V_iald (pc := 30) X (th_da dtX4_bound 19 rfl) rfl g5 e5 ?_
        refine V_goto (pc := 31) (tgt := 35) X (th_da dtX4_bound 20 rfl) (by decide) ?_
        refine V_iadd (pc := 35) X (th_da dtX4_bound 22 rfl) ?_
        refine V_istore_n (pc := 36) (ls2 := [.ref 0, .int y1, .int (y2 + v5), .int y3]) X (th_da dtX4_bound 23 rfl) (Nat.le_of_ble_eq_true rfl) rfl rfl ?_
        refine V_iinc (pc := 37) (v := y3 + 1) (ls2 := [.ref 0, .int y1, .int (y2 + v5), .int (y3 + 1)]) X (th_da dtX4_bound 24 rfl) rfl rfl (Nat.le_of_ble_eq_true rfl) rfl rfl ?_
        refine V_goto (pc := 40) (tgt := 4) X (th_da dtX4_bound 25 rfl) (by decide) ?_
        exact ih _ _ _ _ hf
    · rw [if_neg c1] at hf
      refine V_iload_n (pc := 43) X (th_da dtX4_bound 26 rfl) rfl ?_
      exact V_iretF (pc := 44) X (th_da dtX4_bound 27 rfl) hf
set_option maxHeartbeats 4000000 in
set_option maxRecDepth 100000 in
theorem mX4_bound (l : Launch) (x1 : Int32) (h : th_H) (rr : Int32) (hh : th_H) (hf : fX4_bound x1 h = some (rr, hh)) : th_MI l LM yX4_bound cX4_bound 4 (some .int) 2 42 [.ref 0, .int x1] h (some (.int rr)) hh := by
  refine th_MI_of (ls := [.ref 0, .int x1, .null, .null]) RX4 rfl rfl rfl (Nat.le_of_ble_eq_true rfl) ?_
  intro p0 e s m args below meth c D cI cZ ad X
  unfold fX4_bound at hf
  refine V_iconst (pc := 0) (v := 0) X (th_da dtX4_bound 0 rfl) (by decide) ?_
  refine V_istore_n (pc := 1) (ls2 := [.ref 0, .int x1, .int 0, .null]) X (th_da dtX4_bound 1 rfl) (Nat.le_of_ble_eq_true rfl) rfl rfl ?_
  refine V_iconst (pc := 2) (v := 0) X (th_da dtX4_bound 2 rfl) (by decide) ?_
  refine V_istore_n (pc := 3) (ls2 := [.ref 0, .int x1, .int 0, .int 0]) X (th_da dtX4_bound 3 rfl) (Nat.le_of_ble_eq_true rfl) rfl rfl ?_
  exact tX4_bound_c4 X _ _ _ _ _ hf
end
def fX4_isBound_c4 : Nat → Int32 → Int32 → th_H → Option (Int32 × th_H)
  | 0, _, _, _ => none
  | n + 1, y1, y2, h =>
    if (y2 < 10 : Prop) then
      if (y1 = 0 : Prop) then
        fX4_isBound_c4 n 0 (y2 + 1) h
      else
        th_bd (fX4_bound y2 h) fun u3 h3 =>
        th_rd h3 2 643 ((3 : Int32) + y2) fun v4 =>
        if (v4 < u3 : Prop) then
          fX4_isBound_c4 n 0 (y2 + 1) h3
        else
          fX4_isBound_c4 n 1 (y2 + 1) h3
    else
      th_gb y1 <|
      some (y1, h)
def fX4_isBound (h : th_H) : Option (Int32 × th_H) :=
  fX4_isBound_c4 1000 1 0 h
def tbX4_isBound : List (Nat × Instr × Nat) := [(0, .iconst 1, 1), (1, .istore_n 1, 1), (2, .iconst 0, 1), (3, .istore_n 2, 1), (4, .iload_n 2, 1), (5, .bipush 10, 2), (7, .if_icmp .ge 35, 3), (10, .iload_n 1, 1), (11, .ifCond .eq 23, 3), (14, .aload_n 0, 1), (15, .iload_n 2, 1), (16, .invokevirtual 79, 3), (19, .aload_n 0, 1), (20, .getfield 15, 3), (23, .iconst 3, 1), (24, .iload_n 2, 1), (25, .iadd, 1), (26, .iaload, 1), (27, .if_icmp .gt 7, 3), (30, .iconst 1, 1), (31, .goto 4, 3), (34, .iconst 0, 1), (35, .istore_n 1, 1), (36, .iinc 2 1, 3), (39, .goto (-35), 3), (42, .iload_n 1, 1), (43, .ireturn, 1)]
theorem dtX4_isBound : th_dec cX4_isBound tbX4_isBound = true := by decide +kernel
section
variable {p0 : Program} {l : Launch} {e : Env} {s : State} {m : MethodId} {args : Array Value} {below : List Frame} {meth : Method} {c : Code} {D : va_G} {cI cZ : ClassId} {ad : Nat → Nat} {rr : Int32} {hh : th_H}
set_option maxHeartbeats 4000000 in
set_option maxRecDepth 100000 in
theorem tX4_isBound_c4 (X : th_X p0 s m args meth c D cI cZ ad LM 3 RX4 cX4_isBound (some .boolean)) : ∀ (n : Nat) (y1 : Int32) (y2 : Int32) (h : th_H), fX4_isBound_c4 n y1 y2 h = some (rr, hh) → th_V p0 l e { frames := 3, cells := 0, slots := 0, locals := 65 } s m args below meth c D cI cZ ad LM 3 (some (.int rr)) hh 4 [.ref 0, .int y1, .int y2] [] h := by
  intro n
  induction n with
  | zero => intro y1 y2 h hf; cases hf
  | succ n ih =>
    intro y1 y2 h hf
    rw [fX4_isBound_c4] at hf
    refine V_iload_n (pc := 4) X (th_da dtX4_isBound 4 rfl) rfl ?_
    refine V_bipush (pc := 5) (v := 10) X (th_da dtX4_isBound 5 rfl) (by decide) ?_
    refine V_icmp_ge (pc := 7) (tgt := 42) X (th_da dtX4_isBound 6 rfl) (by decide) (fun c1 => ?_) (fun c1 => ?_)
    · rw [if_pos c1] at hf
      refine V_iload_n (pc := 10) X (th_da dtX4_isBound 7 rfl) rfl ?_
      refine V_if_eq (pc := 11) (tgt := 34) X (th_da dtX4_isBound 8 rfl) (by decide) (fun c2 => ?_) (fun c2 => ?_)
      · rw [if_pos c2] at hf
        refine V_iconst (pc := 34) (v := 0) X (th_da dtX4_isBound 21 rfl) (by decide) ?_
        refine V_istore_n (pc := 35) (ls2 := [.ref 0, .int 0, .int y2]) X (th_da dtX4_isBound 22 rfl) (Nat.le_of_ble_eq_true rfl) rfl rfl ?_
        refine V_iinc (pc := 36) (v := y2 + 1) (ls2 := [.ref 0, .int 0, .int (y2 + 1)]) X (th_da dtX4_isBound 23 rfl) rfl rfl (Nat.le_of_ble_eq_true rfl) rfl rfl ?_
        refine V_goto (pc := 39) (tgt := 4) X (th_da dtX4_isBound 24 rfl) (by decide) ?_
        exact ih _ _ _ hf
      · rw [if_neg c2] at hf
        refine V_aload_n (pc := 14) X (th_da dtX4_isBound 9 rfl) rfl ?_
        refine V_iload_n (pc := 15) X (th_da dtX4_isBound 10 rfl) rfl ?_
        obtain ⟨u3, h3, e3, hf⟩ := th_bd_some hf
        refine V_callVi (pc := 16) (q := 0) (As := [.int y2]) X (th_da dtX4_isBound 11 rfl) (mX4_bound l _ _ _ _ e3) wcd_X4_bound wml_X4_79 wim_X4_bound wse_X4_bound win_X4_bound hd_X4_bound ⟨Nat.le_of_ble_eq_true rfl, Nat.le_of_ble_eq_true rfl⟩ (Nat.le_of_ble_eq_true rfl) rfl rfl rfl ?_
        refine V_aload_n (pc := 19) X (th_da dtX4_isBound 12 rfl) rfl ?_
        refine V_getR (pc := 20) (j := 2) (t := 2) X (th_da dtX4_isBound 13 rfl) wfl_X4_15 iX4 rfl rfl (Nat.le_of_ble_eq_true rfl) rfl ?_
        refine V_iconst (pc := 23) (v := 3) X (th_da dtX4_isBound 14 rfl) (by decide) ?_
        refine V_iload_n (pc := 24) X (th_da dtX4_isBound 15 rfl) rfl ?_
        refine V_iadd (pc := 25) X (th_da dtX4_isBound 16 rfl) ?_
        obtain ⟨v4, e4, g4, hf⟩ := th_rd_some hf
        refine V_iald (pc := 26) X (th_da dtX4_isBound 17 rfl) rfl g4 e4 ?_
        refine V_icmp_gt (pc := 27) (tgt := 34) X (th_da dtX4_isBound 18 rfl) (by decide) (fun c5 => ?_) (fun c5 => ?_)
        · rw [if_pos c5] at hf
          refine V_iconst (pc := 34) (v := 0) X (th_da dtX4_isBound 21 rfl) (by decide) ?_
          refine V_istore_n (pc := 35) (ls2 := [.ref 0, .int 0, .int y2]) X (th_da dtX4_isBound 22 rfl) (Nat.le_of_ble_eq_true rfl) rfl rfl ?_
          refine V_iinc (pc := 36) (v := y2 + 1) (ls2 := [.ref 0, .int 0, .int (y2 + 1)]) X (th_da dtX4_isBound 23 rfl) rfl rfl (Nat.le_of_ble_eq_true rfl) rfl rfl ?_
          refine V_goto (pc := 39) (tgt := 4) X (th_da dtX4_isBound 24 rfl) (by decide) ?_
          exact ih _ _ _ hf
        · rw [if_neg c5] at hf
          refine V_iconst (pc := 30) (v := 1) X (th_da dtX4_isBound 19 rfl) (by decide) ?_
          refine V_goto (pc := 31) (tgt := 35) X (th_da dtX4_isBound 20 rfl) (by decide) ?_
          refine V_istore_n (pc := 35) (ls2 := [.ref 0, .int 1, .int y2]) X (th_da dtX4_isBound 22 rfl) (Nat.le_of_ble_eq_true rfl) rfl rfl ?_
          refine V_iinc (pc := 36) (v := y2 + 1) (ls2 := [.ref 0, .int 1, .int (y2 + 1)]) X (th_da dtX4_isBound 23 rfl) rfl rfl (Nat.le_of_ble_eq_true rfl) rfl rfl ?_
          refine V_goto (pc := 39) (tgt := 4) X (th_da dtX4_isBound 24 rfl) (by decide) ?_
          exact ih _ _ _ hf
    · rw [if_neg c1] at hf
      refine V_iload_n (pc := 42) X (th_da dtX4_isBound 25 rfl) rfl ?_
      obtain ⟨g6, hf⟩ := th_gb_some hf
      exact V_zretF (pc := 43) X (th_da dtX4_isBound 26 rfl) g6 hf
set_option maxHeartbeats 4000000 in
set_option maxRecDepth 100000 in
theorem mX4_isBound (l : Launch) (h : th_H) (rr : Int32) (hh : th_H) (hf : fX4_isBound h = some (rr, hh)) : th_MI l LM yX4_isBound cX4_isBound 3 (some .boolean) 3 65 [.ref 0] h (some (.int rr)) hh := by
  refine th_MI_of (ls := [.ref 0, .null, .null]) RX4 rfl rfl rfl (Nat.le_of_ble_eq_true rfl) ?_
  intro p0 e s m args below meth c D cI cZ ad X
  unfold fX4_isBound at hf
  refine V_iconst (pc := 0) (v := 1) X (th_da dtX4_isBound 0 rfl) (by decide) ?_
  refine V_istore_n (pc := 1) (ls2 := [.ref 0, .int 1, .null]) X (th_da dtX4_isBound 1 rfl) (Nat.le_of_ble_eq_true rfl) rfl rfl ?_
  refine V_iconst (pc := 2) (v := 0) X (th_da dtX4_isBound 2 rfl) (by decide) ?_
  refine V_istore_n (pc := 3) (ls2 := [.ref 0, .int 1, .int 0]) X (th_da dtX4_isBound 3 rfl) (Nat.le_of_ble_eq_true rfl) rfl rfl ?_
  exact tX4_isBound_c4 X _ _ _ _ hf
end
def fX4_link (x1 : Int32) (x2 : Int32) (h : th_H) : Option (Int32 × th_H) :=
  th_st (th_up h 0 0 0) fun h1 =>
  th_bd (fX4_isLink x1 h1) fun u2 h2 =>
  if (u2 = 0 : Prop) then
    th_bd (fX4_refuse 0 h2) fun u4 h4 =>
    some (u4, h4)
  else
    th_bd (fX4_in (Int32.toInt64 x2) 0 1000000 h2) fun u5 h5 =>
    if (u5 = 0 : Prop) then
      th_bd (fX4_refuse 0 h5) fun u7 h7 =>
      some (u7, h7)
    else
      th_rd h5 2 643 ((3 : Int32) + x1) fun v8 =>
      if (v8 = x2 : Prop) then
        th_bd (fX4_refuse 2 h5) fun u10 h10 =>
        some (u10, h10)
      else
        th_bd (fX4_bound x1 h5) fun u11 h11 =>
        if (x2 < u11 : Prop) then
          th_bd (fX4_refuse 4 h11) fun u13 h13 =>
          some (u13, h13)
        else
          th_wr h11 2 643 ((3 : Int32) + x1) x2 fun h14 =>
          some (v8, h14)
def tbX4_link : List (Nat × Instr × Nat) := [(0, .aload_n 0, 1), (1, .iconst 0, 1), (2, .putfield 55, 3), (5, .iload_n 1, 1), (6, .invokestatic 82, 3), (9, .ifCond .eq 15, 3), (12, .iload_n 2, 1), (13, .i2l, 1), (14, .lconst 0, 1), (15, .ldc2_w 86, 3), (18, .invokestatic 63, 3), (21, .ifCond .ne 9, 3), (24, .aload_n 0, 1), (25, .iconst 0, 1), (26, .invokevirtual 88, 3), (29, .ireturn, 1), (30, .aload_n 0, 1), (31, .getfield 15, 3), (34, .iconst 3, 1), (35, .iload_n 1, 1), (36, .iadd, 1), (37, .iaload, 1), (38, .istore_n 3, 1), (39, .iload_n 3, 1), (40, .iload_n 2, 1), (41, .if_icmp .ne 9, 3), (44, .aload_n 0, 1), (45, .iconst 2, 1), (46, .invokevirtual 88, 3), (49, .ireturn, 1), (50, .aload_n 0, 1), (51, .iload_n 1, 1), (52, .invokevirtual 79, 3), (55, .iload_n 2, 1), (56, .if_icmp .le 9, 3), (59, .aload_n 0, 1), (60, .iconst 4, 1), (61, .invokevirtual 88, 3), (64, .ireturn, 1), (65, .aload_n 0, 1), (66, .getfield 15, 3), (69, .iconst 3, 1), (70, .iload_n 1, 1), (71, .iadd, 1), (72, .iload_n 2, 1), (73, .iastore, 1), (74, .iload_n 3, 1), (75, .ireturn, 1)]
theorem dtX4_link : th_dec cX4_link tbX4_link = true := by decide +kernel
section
variable {p0 : Program} {l : Launch} {e : Env} {s : State} {m : MethodId} {args : Array Value} {below : List Frame} {meth : Method} {c : Code} {D : va_G} {cI cZ : ClassId} {ad : Nat → Nat} {rr : Int32} {hh : th_H}
set_option maxHeartbeats 4000000 in
set_option maxRecDepth 100000 in
theorem mX4_link (l : Launch) (x1 : Int32) (x2 : Int32) (h : th_H) (rr : Int32) (hh : th_H) (hf : fX4_link x1 x2 h = some (rr, hh)) : th_MI l LM yX4_link cX4_link 4 (some .int) 3 65 [.ref 0, .int x1, .int x2] h (some (.int rr)) hh := by
  refine th_MI_of (ls := [.ref 0, .int x1, .int x2, .null]) RX4 rfl rfl rfl (Nat.le_of_ble_eq_true rfl) ?_
  intro p0 e s m args below meth c D cI cZ ad X
  unfold fX4_link at hf
  refine V_aload_n (pc := 0) X (th_da dtX4_link 0 rfl) rfl ?_
  refine V_iconst (pc := 1) (v := 0) X (th_da dtX4_link 1 rfl) (by decide) ?_
  obtain ⟨h1, e1, hf⟩ := th_st_some hf
  refine V_putI (pc := 2) (j := 0) (ty := .int) X (th_da dtX4_link 2 rfl) wfl_X4_55 iX4 rfl rfl (Nat.le_of_ble_eq_true rfl) rfl tyX4 tyX4_ok nmX4 rfl (tyX4_ok 0 (Nat.le_of_ble_eq_true rfl)) rfl rfl e1 ?_
  refine V_iload_n (pc := 5) X (th_da dtX4_link 3 rfl) rfl ?_
  obtain ⟨u2, h2, e2, hf⟩ := th_bd_some hf
  refine V_callSi (pc := 6) (As := [.int x1]) X (th_da dtX4_link 4 rfl) (mX4_isLink l _ _ _ _ e2) wcd_X4_isLink wml_X4_82 wst_X4_isLink win_X4_isLink hd_X4_isLink ⟨Nat.le_of_ble_eq_true rfl, Nat.le_of_ble_eq_true rfl⟩ (Nat.le_of_ble_eq_true rfl) rfl ?_
  refine V_if_eq (pc := 9) (tgt := 24) X (th_da dtX4_link 5 rfl) (by decide) (fun c3 => ?_) (fun c3 => ?_)
  · rw [if_pos c3] at hf
    refine V_aload_n (pc := 24) X (th_da dtX4_link 12 rfl) rfl ?_
    refine V_iconst (pc := 25) (v := 0) X (th_da dtX4_link 13 rfl) (by decide) ?_
    obtain ⟨u4, h4, e4, hf⟩ := th_bd_some hf
    refine V_callVi (pc := 26) (q := 0) (As := [.int 0]) X (th_da dtX4_link 14 rfl) (mX4_refuse l _ _ _ _ e4) wcd_X4_refuse wml_X4_88 wim_X4_refuse wse_X4_refuse win_X4_refuse hd_X4_refuse ⟨Nat.le_of_ble_eq_true rfl, Nat.le_of_ble_eq_true rfl⟩ (Nat.le_of_ble_eq_true rfl) rfl rfl rfl ?_
    exact V_iretF (pc := 29) X (th_da dtX4_link 15 rfl) hf
  · rw [if_neg c3] at hf
    refine V_iload_n (pc := 12) X (th_da dtX4_link 6 rfl) rfl ?_
    refine V_i2l (pc := 13) X (th_da dtX4_link 7 rfl) ?_
    refine V_lconst (pc := 14) (v := 0) X (th_da dtX4_link 8 rfl) (by decide) ?_
    refine V_ldc2 (pc := 15) (v := 1000000) X (th_da dtX4_link 9 rfl) wcl_X4_86 ?_
    obtain ⟨u5, h5, e5, hf⟩ := th_bd_some hf
    refine V_callSi (pc := 18) (As := [.long (Int32.toInt64 x2), .long 0, .long 1000000]) X (th_da dtX4_link 10 rfl) (mX4_in l _ _ _ _ _ _ e5) wcd_X4_in wml_X4_63 wst_X4_in win_X4_in hd_X4_in ⟨Nat.le_of_ble_eq_true rfl, Nat.le_of_ble_eq_true rfl⟩ (Nat.le_of_ble_eq_true rfl) rfl ?_
    refine V_if_ne (pc := 21) (tgt := 30) X (th_da dtX4_link 11 rfl) (by decide) (fun c6 => ?_) (fun c6 => ?_)
    · rw [if_pos c6] at hf
      refine V_aload_n (pc := 24) X (th_da dtX4_link 12 rfl) rfl ?_
      refine V_iconst (pc := 25) (v := 0) X (th_da dtX4_link 13 rfl) (by decide) ?_
      obtain ⟨u7, h7, e7, hf⟩ := th_bd_some hf
      refine V_callVi (pc := 26) (q := 0) (As := [.int 0]) X (th_da dtX4_link 14 rfl) (mX4_refuse l _ _ _ _ e7) wcd_X4_refuse wml_X4_88 wim_X4_refuse wse_X4_refuse win_X4_refuse hd_X4_refuse ⟨Nat.le_of_ble_eq_true rfl, Nat.le_of_ble_eq_true rfl⟩ (Nat.le_of_ble_eq_true rfl) rfl rfl rfl ?_
      exact V_iretF (pc := 29) X (th_da dtX4_link 15 rfl) hf
    · rw [if_neg c6] at hf
      refine V_aload_n (pc := 30) X (th_da dtX4_link 16 rfl) rfl ?_
      refine V_getR (pc := 31) (j := 2) (t := 2) X (th_da dtX4_link 17 rfl) wfl_X4_15 iX4 rfl rfl (Nat.le_of_ble_eq_true rfl) rfl ?_
      refine V_iconst (pc := 34) (v := 3) X (th_da dtX4_link 18 rfl) (by decide) ?_
      refine V_iload_n (pc := 35) X (th_da dtX4_link 19 rfl) rfl ?_
      refine V_iadd (pc := 36) X (th_da dtX4_link 20 rfl) ?_
      obtain ⟨v8, e8, g8, hf⟩ := th_rd_some hf
      refine V_iald (pc := 37) X (th_da dtX4_link 21 rfl) rfl g8 e8 ?_
      refine V_istore_n (pc := 38) (ls2 := [.ref 0, .int x1, .int x2, .int v8]) X (th_da dtX4_link 22 rfl) (Nat.le_of_ble_eq_true rfl) rfl rfl ?_
      refine V_iload_n (pc := 39) X (th_da dtX4_link 23 rfl) rfl ?_
      refine V_iload_n (pc := 40) X (th_da dtX4_link 24 rfl) rfl ?_
      refine V_icmp_ne (pc := 41) (tgt := 50) X (th_da dtX4_link 25 rfl) (by decide) (fun c9 => ?_) (fun c9 => ?_)
      · rw [if_pos c9] at hf
        refine V_aload_n (pc := 44) X (th_da dtX4_link 26 rfl) rfl ?_
        refine V_iconst (pc := 45) (v := 2) X (th_da dtX4_link 27 rfl) (by decide) ?_
        obtain ⟨u10, h10, e10, hf⟩ := th_bd_some hf
        refine V_callVi (pc := 46) (q := 0) (As := [.int 2]) X (th_da dtX4_link 28 rfl) (mX4_refuse l _ _ _ _ e10) wcd_X4_refuse wml_X4_88 wim_X4_refuse wse_X4_refuse win_X4_refuse hd_X4_refuse ⟨Nat.le_of_ble_eq_true rfl, Nat.le_of_ble_eq_true rfl⟩ (Nat.le_of_ble_eq_true rfl) rfl rfl rfl ?_
        exact V_iretF (pc := 49) X (th_da dtX4_link 29 rfl) hf
      · rw [if_neg c9] at hf
        refine V_aload_n (pc := 50) X (th_da dtX4_link 30 rfl) rfl ?_
        refine V_iload_n (pc := 51) X (th_da dtX4_link 31 rfl) rfl ?_
        obtain ⟨u11, h11, e11, hf⟩ := th_bd_some hf
        refine V_callVi (pc := 52) (q := 0) (As := [.int x1]) X (th_da dtX4_link 32 rfl) (mX4_bound l _ _ _ _ e11) wcd_X4_bound wml_X4_79 wim_X4_bound wse_X4_bound win_X4_bound hd_X4_bound ⟨Nat.le_of_ble_eq_true rfl, Nat.le_of_ble_eq_true rfl⟩ (Nat.le_of_ble_eq_true rfl) rfl rfl rfl ?_
        refine V_iload_n (pc := 55) X (th_da dtX4_link 33 rfl) rfl ?_
        refine V_icmp_le (pc := 56) (tgt := 65) X (th_da dtX4_link 34 rfl) (by decide) (fun c12 => ?_) (fun c12 => ?_)
        · rw [if_pos c12] at hf
          refine V_aload_n (pc := 59) X (th_da dtX4_link 35 rfl) rfl ?_
          refine V_iconst (pc := 60) (v := 4) X (th_da dtX4_link 36 rfl) (by decide) ?_
          obtain ⟨u13, h13, e13, hf⟩ := th_bd_some hf
          refine V_callVi (pc := 61) (q := 0) (As := [.int 4]) X (th_da dtX4_link 37 rfl) (mX4_refuse l _ _ _ _ e13) wcd_X4_refuse wml_X4_88 wim_X4_refuse wse_X4_refuse win_X4_refuse hd_X4_refuse ⟨Nat.le_of_ble_eq_true rfl, Nat.le_of_ble_eq_true rfl⟩ (Nat.le_of_ble_eq_true rfl) rfl rfl rfl ?_
          exact V_iretF (pc := 64) X (th_da dtX4_link 38 rfl) hf
        · rw [if_neg c12] at hf
          refine V_aload_n (pc := 65) X (th_da dtX4_link 39 rfl) rfl ?_
          refine V_getR (pc := 66) (j := 2) (t := 2) X (th_da dtX4_link 40 rfl) wfl_X4_15 iX4 rfl rfl (Nat.le_of_ble_eq_true rfl) rfl ?_
          refine V_iconst (pc := 69) (v := 3) X (th_da dtX4_link 41 rfl) (by decide) ?_
          refine V_iload_n (pc := 70) X (th_da dtX4_link 42 rfl) rfl ?_
          refine V_iadd (pc := 71) X (th_da dtX4_link 43 rfl) ?_
          refine V_iload_n (pc := 72) X (th_da dtX4_link 44 rfl) rfl ?_
          obtain ⟨h14, e14, g14, hf⟩ := th_wr_some hf
          refine V_iast (pc := 73) X (th_da dtX4_link 45 rfl) rfl g14 e14 ?_
          refine V_iload_n (pc := 74) X (th_da dtX4_link 46 rfl) rfl ?_
          exact V_iretF (pc := 75) X (th_da dtX4_link 47 rfl) hf
end
def fX4_areLinks (x0 : Int32) (h : th_H) : Option (Int32 × th_H) :=
  th_bd (fX4_in (Int32.toInt64 x0) 1 1023 h) fun u1 h1 =>
  th_gb u1 <|
  some (u1, h1)
def tbX4_areLinks : List (Nat × Instr × Nat) := [(0, .iload_n 0, 1), (1, .i2l, 1), (2, .lconst 1, 1), (3, .ldc2_w 91, 3), (6, .invokestatic 63, 3), (9, .ireturn, 1)]
theorem dtX4_areLinks : th_dec cX4_areLinks tbX4_areLinks = true := by decide +kernel
section
variable {p0 : Program} {l : Launch} {e : Env} {s : State} {m : MethodId} {args : Array Value} {below : List Frame} {meth : Method} {c : Code} {D : va_G} {cI cZ : ClassId} {ad : Nat → Nat} {rr : Int32} {hh : th_H}
set_option maxHeartbeats 4000000 in
set_option maxRecDepth 100000 in
theorem mX4_areLinks (l : Launch) (x0 : Int32) (h : th_H) (rr : Int32) (hh : th_H) (hf : fX4_areLinks x0 h = some (rr, hh)) : th_MI l LM yX4_areLinks cX4_areLinks 1 (some .boolean) 1 25 [.int x0] h (some (.int rr)) hh := by
  refine th_MI_of (ls := [.int x0]) RX4 rfl rfl rfl (Nat.le_of_ble_eq_true rfl) ?_
  intro p0 e s m args below meth c D cI cZ ad X
  unfold fX4_areLinks at hf
  refine V_iload_n (pc := 0) X (th_da dtX4_areLinks 0 rfl) rfl ?_
  refine V_i2l (pc := 1) X (th_da dtX4_areLinks 1 rfl) ?_
  refine V_lconst (pc := 2) (v := 1) X (th_da dtX4_areLinks 2 rfl) (by decide) ?_
  refine V_ldc2 (pc := 3) (v := 1023) X (th_da dtX4_areLinks 3 rfl) wcl_X4_91 ?_
  obtain ⟨u1, h1, e1, hf⟩ := th_bd_some hf
  refine V_callSi (pc := 6) (As := [.long (Int32.toInt64 x0), .long 1, .long 1023]) X (th_da dtX4_areLinks 4 rfl) (mX4_in l _ _ _ _ _ _ e1) wcd_X4_in wml_X4_63 wst_X4_in win_X4_in hd_X4_in ⟨Nat.le_of_ble_eq_true rfl, Nat.le_of_ble_eq_true rfl⟩ (Nat.le_of_ble_eq_true rfl) rfl ?_
  obtain ⟨g2, hf⟩ := th_gb_some hf
  exact V_zretF (pc := 9) X (th_da dtX4_areLinks 5 rfl) g2 hf
end
def fX4_namedBy_c4 : Nat → Int32 → Int32 → Int32 → th_H → Option (Int32 × th_H)
  | 0, _, _, _, _ => none
  | n + 1, y1, y2, y3, h =>
    if (y3 < 20 : Prop) then
      th_bd (fX4_at y3 h) fun u2 h2 =>
      th_rd h2 2 643 u2 fun v3 =>
      if (v3 = 1 : Prop) then
        th_bd (fX4_at y3 h2) fun u5 h5 =>
        th_rd h5 2 643 (u5 + 1) fun v6 =>
        if (v6 = y1 : Prop) then
          fX4_namedBy_c4 n y1 y3 (y3 + 1) h5
        else
          fX4_namedBy_c4 n y1 y2 (y3 + 1) h5
      else
        fX4_namedBy_c4 n y1 y2 (y3 + 1) h2
    else
      some (y2, h)
def fX4_namedBy (x1 : Int32) (h : th_H) : Option (Int32 × th_H) :=
  fX4_namedBy_c4 1000 x1 (-1) 0 h
def tbX4_namedBy : List (Nat × Instr × Nat) := [(0, .iconst (-1), 1), (1, .istore_n 2, 1), (2, .iconst 0, 1), (3, .istore_n 3, 1), (4, .iload_n 3, 1), (5, .bipush 20, 2), (7, .if_icmp .ge 43, 3), (10, .aload_n 0, 1), (11, .getfield 15, 3), (14, .iload_n 3, 1), (15, .invokestatic 71, 3), (18, .iaload, 1), (19, .iconst 1, 1), (20, .if_icmp .ne 22, 3), (23, .aload_n 0, 1), (24, .getfield 15, 3), (27, .iload_n 3, 1), (28, .invokestatic 71, 3), (31, .iconst 1, 1), (32, .iadd, 1), (33, .iaload, 1), (34, .iload_n 1, 1), (35, .if_icmp .ne 7, 3), (38, .iload_n 3, 1), (39, .goto 4, 3), (42, .iload_n 2, 1), (43, .istore_n 2, 1), (44, .iinc 3 1, 3), (47, .goto (-43), 3), (50, .iload_n 2, 1), (51, .ireturn, 1)]
theorem dtX4_namedBy : th_dec cX4_namedBy tbX4_namedBy = true := by decide +kernel
section
variable {p0 : Program} {l : Launch} {e : Env} {s : State} {m : MethodId} {args : Array Value} {below : List Frame} {meth : Method} {c : Code} {D : va_G} {cI cZ : ClassId} {ad : Nat → Nat} {rr : Int32} {hh : th_H}
set_option maxHeartbeats 4000000 in
set_option maxRecDepth 100000 in
theorem tX4_namedBy_c4 (X : th_X p0 s m args meth c D cI cZ ad LM 4 RX4 cX4_namedBy (some .int)) : ∀ (n : Nat) (y1 : Int32) (y2 : Int32) (y3 : Int32) (h : th_H), fX4_namedBy_c4 n y1 y2 y3 h = some (rr, hh) → th_V p0 l e { frames := 1, cells := 0, slots := 0, locals := 20 } s m args below meth c D cI cZ ad LM 4 (some (.int rr)) hh 4 [.ref 0, .int y1, .int y2, .int y3] [] h := by
  intro n
  induction n with
  | zero => intro y1 y2 y3 h hf; cases hf
  | succ n ih =>
    intro y1 y2 y3 h hf
    rw [fX4_namedBy_c4] at hf
    refine V_iload_n (pc := 4) X (th_da dtX4_namedBy 4 rfl) rfl ?_
    refine V_bipush (pc := 5) (v := 20) X (th_da dtX4_namedBy 5 rfl) (by decide) ?_
    refine V_icmp_ge (pc := 7) (tgt := 50) X (th_da dtX4_namedBy 6 rfl) (by decide) (fun c1 => ?_) (fun c1 => ?_)
    · rw [if_pos c1] at hf
      refine V_aload_n (pc := 10) X (th_da dtX4_namedBy 7 rfl) rfl ?_
      refine V_getR (pc := 11) (j := 2) (t := 2) X (th_da dtX4_namedBy 8 rfl) wfl_X4_15 iX4 rfl rfl (Nat.le_of_ble_eq_true rfl) rfl ?_
      refine V_iload_n (pc := 14) X (th_da dtX4_namedBy 9 rfl) rfl ?_
      obtain ⟨u2, h2, e2, hf⟩ := th_bd_some hf
      refine V_callSi (pc := 15) (As := [.int y3]) X (th_da dtX4_namedBy 10 rfl) (mX4_at l _ _ _ _ e2) wcd_X4_at wml_X4_71 wst_X4_at win_X4_at hd_X4_at ⟨Nat.le_of_ble_eq_true rfl, Nat.le_of_ble_eq_true rfl⟩ (Nat.le_of_ble_eq_true rfl) rfl ?_
      obtain ⟨v3, e3, g3, hf⟩ := th_rd_some hf
      refine V_iald (pc := 18) X (th_da dtX4_namedBy 11 rfl) rfl g3 e3 ?_
      refine V_iconst (pc := 19) (v := 1) X (th_da dtX4_namedBy 12 rfl) (by decide) ?_
      refine V_icmp_ne (pc := 20) (tgt := 42) X (th_da dtX4_namedBy 13 rfl) (by decide) (fun c4 => ?_) (fun c4 => ?_)
      · rw [if_pos c4] at hf
        refine V_aload_n (pc := 23) X (th_da dtX4_namedBy 14 rfl) rfl ?_
        refine V_getR (pc := 24) (j := 2) (t := 2) X (th_da dtX4_namedBy 15 rfl) wfl_X4_15 iX4 rfl rfl (Nat.le_of_ble_eq_true rfl) rfl ?_
        refine V_iload_n (pc := 27) X (th_da dtX4_namedBy 16 rfl) rfl ?_
        obtain ⟨u5, h5, e5, hf⟩ := th_bd_some hf
        refine V_callSi (pc := 28) (As := [.int y3]) X (th_da dtX4_namedBy 17 rfl) (mX4_at l _ _ _ _ e5) wcd_X4_at wml_X4_71 wst_X4_at win_X4_at hd_X4_at ⟨Nat.le_of_ble_eq_true rfl, Nat.le_of_ble_eq_true rfl⟩ (Nat.le_of_ble_eq_true rfl) rfl ?_
        refine V_iconst (pc := 31) (v := 1) X (th_da dtX4_namedBy 18 rfl) (by decide) ?_
        refine V_iadd (pc := 32) X (th_da dtX4_namedBy 19 rfl) ?_
        obtain ⟨v6, e6, g6, hf⟩ := th_rd_some hf
        refine V_iald (pc := 33) X (th_da dtX4_namedBy 20 rfl) rfl g6 e6 ?_
        refine V_iload_n (pc := 34) X (th_da dtX4_namedBy 21 rfl) rfl ?_
        refine V_icmp_ne (pc := 35) (tgt := 42) X (th_da dtX4_namedBy 22 rfl) (by decide) (fun c7 => ?_) (fun c7 => ?_)
        · rw [if_pos c7] at hf
          refine V_iload_n (pc := 38) X (th_da dtX4_namedBy 23 rfl) rfl ?_
          refine V_goto (pc := 39) (tgt := 43) X (th_da dtX4_namedBy 24 rfl) (by decide) ?_
          refine V_istore_n (pc := 43) (ls2 := [.ref 0, .int y1, .int y3, .int y3]) X (th_da dtX4_namedBy 26 rfl) (Nat.le_of_ble_eq_true rfl) rfl rfl ?_
          refine V_iinc (pc := 44) (v := y3 + 1) (ls2 := [.ref 0, .int y1, .int y3, .int (y3 + 1)]) X (th_da dtX4_namedBy 27 rfl) rfl rfl (Nat.le_of_ble_eq_true rfl) rfl rfl ?_
          refine V_goto (pc := 47) (tgt := 4) X (th_da dtX4_namedBy 28 rfl) (by decide) ?_
          exact ih _ _ _ _ hf
        · rw [if_neg c7] at hf
          refine V_iload_n (pc := 42) X (th_da dtX4_namedBy 25 rfl) rfl ?_
          refine V_istore_n (pc := 43) (ls2 := [.ref 0, .int y1, .int y2, .int y3]) X (th_da dtX4_namedBy 26 rfl) (Nat.le_of_ble_eq_true rfl) rfl rfl ?_
          refine V_iinc (pc := 44) (v := y3 + 1) (ls2 := [.ref 0, .int y1, .int y2, .int (y3 + 1)]) X (th_da dtX4_namedBy 27 rfl) rfl rfl (Nat.le_of_ble_eq_true rfl) rfl rfl ?_
          refine V_goto (pc := 47) (tgt := 4) X (th_da dtX4_namedBy 28 rfl) (by decide) ?_
          exact ih _ _ _ _ hf
      · rw [if_neg c4] at hf
        refine V_iload_n (pc := 42) X (th_da dtX4_namedBy 25 rfl) rfl ?_
        refine V_istore_n (pc := 43) (ls2 := [.ref 0, .int y1, .int y2, .int y3]) X (th_da dtX4_namedBy 26 rfl) (Nat.le_of_ble_eq_true rfl) rfl rfl ?_
        refine V_iinc (pc := 44) (v := y3 + 1) (ls2 := [.ref 0, .int y1, .int y2, .int (y3 + 1)]) X (th_da dtX4_namedBy 27 rfl) rfl rfl (Nat.le_of_ble_eq_true rfl) rfl rfl ?_
        refine V_goto (pc := 47) (tgt := 4) X (th_da dtX4_namedBy 28 rfl) (by decide) ?_
        exact ih _ _ _ _ hf
    · rw [if_neg c1] at hf
      refine V_iload_n (pc := 50) X (th_da dtX4_namedBy 29 rfl) rfl ?_
      exact V_iretF (pc := 51) X (th_da dtX4_namedBy 30 rfl) hf
set_option maxHeartbeats 4000000 in
set_option maxRecDepth 100000 in
theorem mX4_namedBy (l : Launch) (x1 : Int32) (h : th_H) (rr : Int32) (hh : th_H) (hf : fX4_namedBy x1 h = some (rr, hh)) : th_MI l LM yX4_namedBy cX4_namedBy 4 (some .int) 1 20 [.ref 0, .int x1] h (some (.int rr)) hh := by
  refine th_MI_of (ls := [.ref 0, .int x1, .null, .null]) RX4 rfl rfl rfl (Nat.le_of_ble_eq_true rfl) ?_
  intro p0 e s m args below meth c D cI cZ ad X
  unfold fX4_namedBy at hf
  refine V_iconst (pc := 0) (v := (-1)) X (th_da dtX4_namedBy 0 rfl) (by decide) ?_
  refine V_istore_n (pc := 1) (ls2 := [.ref 0, .int x1, .int (-1), .null]) X (th_da dtX4_namedBy 1 rfl) (Nat.le_of_ble_eq_true rfl) rfl rfl ?_
  refine V_iconst (pc := 2) (v := 0) X (th_da dtX4_namedBy 2 rfl) (by decide) ?_
  refine V_istore_n (pc := 3) (ls2 := [.ref 0, .int x1, .int (-1), .int 0]) X (th_da dtX4_namedBy 3 rfl) (Nat.le_of_ble_eq_true rfl) rfl rfl ?_
  exact tX4_namedBy_c4 X _ _ _ _ _ hf
end
def fX4_freeNumber_c2 : Nat → Int32 → th_H → Option (Int32 × th_H)
  | 0, _, _ => none
  | n + 1, y1, h =>
    if (y1 < 20 : Prop) then
      th_bd (fX4_at y1 h) fun u2 h2 =>
      th_rd h2 2 643 u2 fun v3 =>
      if (v3 = 1 : Prop) then
        fX4_freeNumber_c2 n (y1 + 1) h2
      else
        some (y1, h2)
    else
      some (y1, h)
def fX4_freeNumber (h : th_H) : Option (Int32 × th_H) :=
  fX4_freeNumber_c2 1000 0 h
def tbX4_freeNumber : List (Nat × Instr × Nat) := [(0, .iconst 0, 1), (1, .istore_n 1, 1), (2, .iload_n 1, 1), (3, .bipush 20, 2), (5, .if_icmp .ge 22, 3), (8, .aload_n 0, 1), (9, .getfield 15, 3), (12, .iload_n 1, 1), (13, .invokestatic 71, 3), (16, .iaload, 1), (17, .iconst 1, 1), (18, .if_icmp .ne 9, 3), (21, .iinc 1 1, 3), (24, .goto (-22), 3), (27, .iload_n 1, 1), (28, .ireturn, 1)]
theorem dtX4_freeNumber : th_dec cX4_freeNumber tbX4_freeNumber = true := by decide +kernel
section
variable {p0 : Program} {l : Launch} {e : Env} {s : State} {m : MethodId} {args : Array Value} {below : List Frame} {meth : Method} {c : Code} {D : va_G} {cI cZ : ClassId} {ad : Nat → Nat} {rr : Int32} {hh : th_H}
set_option maxHeartbeats 4000000 in
set_option maxRecDepth 100000 in
theorem tX4_freeNumber_c2 (X : th_X p0 s m args meth c D cI cZ ad LM 2 RX4 cX4_freeNumber (some .int)) : ∀ (n : Nat) (y1 : Int32) (h : th_H), fX4_freeNumber_c2 n y1 h = some (rr, hh) → th_V p0 l e { frames := 1, cells := 0, slots := 0, locals := 20 } s m args below meth c D cI cZ ad LM 2 (some (.int rr)) hh 2 [.ref 0, .int y1] [] h := by
  intro n
  induction n with
  | zero => intro y1 h hf; cases hf
  | succ n ih =>
    intro y1 h hf
    rw [fX4_freeNumber_c2] at hf
    refine V_iload_n (pc := 2) X (th_da dtX4_freeNumber 2 rfl) rfl ?_
    refine V_bipush (pc := 3) (v := 20) X (th_da dtX4_freeNumber 3 rfl) (by decide) ?_
    refine V_icmp_ge (pc := 5) (tgt := 27) X (th_da dtX4_freeNumber 4 rfl) (by decide) (fun c1 => ?_) (fun c1 => ?_)
    · rw [if_pos c1] at hf
      refine V_aload_n (pc := 8) X (th_da dtX4_freeNumber 5 rfl) rfl ?_
      refine V_getR (pc := 9) (j := 2) (t := 2) X (th_da dtX4_freeNumber 6 rfl) wfl_X4_15 iX4 rfl rfl (Nat.le_of_ble_eq_true rfl) rfl ?_
      refine V_iload_n (pc := 12) X (th_da dtX4_freeNumber 7 rfl) rfl ?_
      obtain ⟨u2, h2, e2, hf⟩ := th_bd_some hf
      refine V_callSi (pc := 13) (As := [.int y1]) X (th_da dtX4_freeNumber 8 rfl) (mX4_at l _ _ _ _ e2) wcd_X4_at wml_X4_71 wst_X4_at win_X4_at hd_X4_at ⟨Nat.le_of_ble_eq_true rfl, Nat.le_of_ble_eq_true rfl⟩ (Nat.le_of_ble_eq_true rfl) rfl ?_
      obtain ⟨v3, e3, g3, hf⟩ := th_rd_some hf
      refine V_iald (pc := 16) X (th_da dtX4_freeNumber 9 rfl) rfl g3 e3 ?_
      refine V_iconst (pc := 17) (v := 1) X (th_da dtX4_freeNumber 10 rfl) (by decide) ?_
      refine V_icmp_ne (pc := 18) (tgt := 27) X (th_da dtX4_freeNumber 11 rfl) (by decide) (fun c4 => ?_) (fun c4 => ?_)
      · rw [if_pos c4] at hf
        refine V_iinc (pc := 21) (v := y1 + 1) (ls2 := [.ref 0, .int (y1 + 1)]) X (th_da dtX4_freeNumber 12 rfl) rfl rfl (Nat.le_of_ble_eq_true rfl) rfl rfl ?_
        refine V_goto (pc := 24) (tgt := 2) X (th_da dtX4_freeNumber 13 rfl) (by decide) ?_
        exact ih _ _ hf
      · rw [if_neg c4] at hf
        refine V_iload_n (pc := 27) X (th_da dtX4_freeNumber 14 rfl) rfl ?_
        exact V_iretF (pc := 28) X (th_da dtX4_freeNumber 15 rfl) hf
    · rw [if_neg c1] at hf
      refine V_iload_n (pc := 27) X (th_da dtX4_freeNumber 14 rfl) rfl ?_
      exact V_iretF (pc := 28) X (th_da dtX4_freeNumber 15 rfl) hf
set_option maxHeartbeats 4000000 in
set_option maxRecDepth 100000 in
theorem mX4_freeNumber (l : Launch) (h : th_H) (rr : Int32) (hh : th_H) (hf : fX4_freeNumber h = some (rr, hh)) : th_MI l LM yX4_freeNumber cX4_freeNumber 2 (some .int) 1 20 [.ref 0] h (some (.int rr)) hh := by
  refine th_MI_of (ls := [.ref 0, .null]) RX4 rfl rfl rfl (Nat.le_of_ble_eq_true rfl) ?_
  intro p0 e s m args below meth c D cI cZ ad X
  unfold fX4_freeNumber at hf
  refine V_iconst (pc := 0) (v := 0) X (th_da dtX4_freeNumber 0 rfl) (by decide) ?_
  refine V_istore_n (pc := 1) (ls2 := [.ref 0, .int 0]) X (th_da dtX4_freeNumber 1 rfl) (Nat.le_of_ble_eq_true rfl) rfl rfl ?_
  exact tX4_freeNumber_c2 X _ _ _ hf
end
def fX4_knowsNothing (x1 : Int32) (x2 : Int32) (h : th_H) : Option (Unit × th_H) :=
  th_wr h 2 643 (((243 : Int32) + ((10 : Int32) * x1)) + x2) 1000000 fun h1 =>
  th_wr h1 2 643 (((443 : Int32) + ((10 : Int32) * x1)) + x2) 1000000 fun h2 =>
  some ((), h2)
def tbX4_knowsNothing : List (Nat × Instr × Nat) := [(0, .aload_n 0, 1), (1, .getfield 15, 3), (4, .sipush 243, 3), (7, .bipush 10, 2), (9, .iload_n 1, 1), (10, .imul, 1), (11, .iadd, 1), (12, .iload_n 2, 1), (13, .iadd, 1), (14, .ldc 93, 2), (16, .iastore, 1), (17, .aload_n 0, 1), (18, .getfield 15, 3), (21, .sipush 443, 3), (24, .bipush 10, 2), (26, .iload_n 1, 1), (27, .imul, 1), (28, .iadd, 1), (29, .iload_n 2, 1), (30, .iadd, 1), (31, .ldc 93, 2), (33, .iastore, 1), (34, .return_, 1)]
theorem dtX4_knowsNothing : th_dec cX4_knowsNothing tbX4_knowsNothing = true := by decide +kernel
section
variable {p0 : Program} {l : Launch} {e : Env} {s : State} {m : MethodId} {args : Array Value} {below : List Frame} {meth : Method} {c : Code} {D : va_G} {cI cZ : ClassId} {ad : Nat → Nat} {rr : Unit} {hh : th_H}
set_option maxHeartbeats 4000000 in
set_option maxRecDepth 100000 in
theorem mX4_knowsNothing (l : Launch) (x1 : Int32) (x2 : Int32) (h : th_H) (rr : Unit) (hh : th_H) (hf : fX4_knowsNothing x1 x2 h = some (rr, hh)) : th_MI l LM yX4_knowsNothing cX4_knowsNothing 3 none 0 0 [.ref 0, .int x1, .int x2] h none hh := by
  refine th_MI_of (ls := [.ref 0, .int x1, .int x2]) RX4 rfl rfl rfl (Nat.le_of_ble_eq_true rfl) ?_
  intro p0 e s m args below meth c D cI cZ ad X
  unfold fX4_knowsNothing at hf
  refine V_aload_n (pc := 0) X (th_da dtX4_knowsNothing 0 rfl) rfl ?_
  refine V_getR (pc := 1) (j := 2) (t := 2) X (th_da dtX4_knowsNothing 1 rfl) wfl_X4_15 iX4 rfl rfl (Nat.le_of_ble_eq_true rfl) rfl ?_
  refine V_sipush (pc := 4) (v := 243) X (th_da dtX4_knowsNothing 2 rfl) (by decide) ?_
  refine V_bipush (pc := 7) (v := 10) X (th_da dtX4_knowsNothing 3 rfl) (by decide) ?_
  refine V_iload_n (pc := 9) X (th_da dtX4_knowsNothing 4 rfl) rfl ?_
  refine V_imul (pc := 10) X (th_da dtX4_knowsNothing 5 rfl) ?_
  refine V_iadd (pc := 11) X (th_da dtX4_knowsNothing 6 rfl) ?_
  refine V_iload_n (pc := 12) X (th_da dtX4_knowsNothing 7 rfl) rfl ?_
  refine V_iadd (pc := 13) X (th_da dtX4_knowsNothing 8 rfl) ?_
  refine V_ldc (pc := 14) (v := 1000000) X (th_da dtX4_knowsNothing 9 rfl) wco_X4_93 ?_
  obtain ⟨h1, e1, g1, hf⟩ := th_wr_some hf
  refine V_iast (pc := 16) X (th_da dtX4_knowsNothing 10 rfl) rfl g1 e1 ?_
  refine V_aload_n (pc := 17) X (th_da dtX4_knowsNothing 11 rfl) rfl ?_
  refine V_getR (pc := 18) (j := 2) (t := 2) X (th_da dtX4_knowsNothing 12 rfl) wfl_X4_15 iX4 rfl rfl (Nat.le_of_ble_eq_true rfl) rfl ?_
  refine V_sipush (pc := 21) (v := 443) X (th_da dtX4_knowsNothing 13 rfl) (by decide) ?_
  refine V_bipush (pc := 24) (v := 10) X (th_da dtX4_knowsNothing 14 rfl) (by decide) ?_
  refine V_iload_n (pc := 26) X (th_da dtX4_knowsNothing 15 rfl) rfl ?_
  refine V_imul (pc := 27) X (th_da dtX4_knowsNothing 16 rfl) ?_
  refine V_iadd (pc := 28) X (th_da dtX4_knowsNothing 17 rfl) ?_
  refine V_iload_n (pc := 29) X (th_da dtX4_knowsNothing 18 rfl) rfl ?_
  refine V_iadd (pc := 30) X (th_da dtX4_knowsNothing 19 rfl) ?_
  refine V_ldc (pc := 31) (v := 1000000) X (th_da dtX4_knowsNothing 20 rfl) wco_X4_93 ?_
  obtain ⟨h2, e2, g2, hf⟩ := th_wr_some hf
  refine V_iast (pc := 33) X (th_da dtX4_knowsNothing 21 rfl) rfl g2 e2 ?_
  exact V_vretF (pc := 34) X (th_da dtX4_knowsNothing 22 rfl) hf
end
def fX4_lay_c97 : Nat → Int32 → Int32 → th_H → Option (Unit × th_H)
  | 0, _, _, _ => none
  | n + 1, y1, y8, h =>
    if (y8 < 10 : Prop) then
      th_bd (fX4_knowsNothing y1 y8 h) fun _u2 h2 =>
      fX4_lay_c97 n y1 (y8 + 1) h2
    else
      some ((), h)
def fX4_lay_c9 : Nat → Int32 → Int32 → Int32 → Int32 → Int32 → Int32 → Int32 → Int32 → th_H → Option (Unit × th_H)
  | 0, _, _, _, _, _, _, _, _, _ => none
  | n + 1, y1, y2, y3, y4, y5, y6, y7, y8, h =>
    if (y8 < 11 : Prop) then
      th_wr h 2 643 (y7 + y8) 0 fun h2 =>
      fX4_lay_c9 n y1 y2 y3 y4 y5 y6 y7 (y8 + 1) h2
    else
      th_wr h 2 643 y7 1 fun h3 =>
      th_wr h3 2 643 (y7 + 1) y2 fun h4 =>
      th_wr h4 2 643 (y7 + 2) y3 fun h5 =>
      th_wr h5 2 643 (y7 + 3) y4 fun h6 =>
      th_wr h6 2 643 (y7 + 4) y5 fun h7 =>
      th_wr h7 2 643 (y7 + 5) y6 fun h8 =>
      fX4_lay_c97 1000 y1 0 h8
def fX4_lay (x1 : Int32) (x2 : Int32) (x3 : Int32) (x4 : Int32) (x5 : Int32) (x6 : Int32) (h : th_H) : Option (Unit × th_H) :=
  th_bd (fX4_at x1 h) fun u1 h1 =>
  fX4_lay_c9 1000 x1 x2 x3 x4 x5 x6 u1 0 h1
def tbX4_lay : List (Nat × Instr × Nat) := [(0, .iload_n 1, 1), (1, .invokestatic 71, 3), (4, .istore 7, 2), (6, .iconst 0, 1), (7, .istore 8, 2), (9, .iload 8, 2), (11, .bipush 11, 2), (13, .if_icmp .ge 20, 3), (16, .aload_n 0, 1), (17, .getfield 15, 3), (20, .iload 7, 2), (22, .iload 8, 2), (24, .iadd, 1), (25, .iconst 0, 1), (26, .iastore, 1), (27, .iinc 8 1, 3), (30, .goto (-21), 3), (33, .aload_n 0, 1), (34, .getfield 15, 3), (37, .iload 7, 2), (39, .iconst 1, 1), (40, .iastore, 1), (41, .aload_n 0, 1), (42, .getfield 15, 3), (45, .iload 7, 2), (47, .iconst 1, 1), (48, .iadd, 1), (49, .iload_n 2, 1), (50, .iastore, 1), (51, .aload_n 0, 1), (52, .getfield 15, 3), (55, .iload 7, 2), (57, .iconst 2, 1), (58, .iadd, 1), (59, .iload_n 3, 1), (60, .iastore, 1), (61, .aload_n 0, 1), (62, .getfield 15, 3), (65, .iload 7, 2), (67, .iconst 3, 1), (68, .iadd, 1), (69, .iload 4, 2), (71, .iastore, 1), (72, .aload_n 0, 1), (73, .getfield 15, 3), (76, .iload 7, 2), (78, .iconst 4, 1), (79, .iadd, 1), (80, .iload 5, 2), (82, .iastore, 1), (83, .aload_n 0, 1), (84, .getfield 15, 3), (87, .iload 7, 2), (89, .iconst 5, 1), (90, .iadd, 1), (91, .iload 6, 2), (93, .iastore, 1), (94, .iconst 0, 1), (95, .istore 8, 2), (97, .iload 8, 2), (99, .bipush 10, 2), (101, .if_icmp .ge 16, 3), (104, .aload_n 0, 1), (105, .iload_n 1, 1), (106, .iload 8, 2), (108, .invokevirtual 94, 3), (111, .iinc 8 1, 3), (114, .goto (-17), 3), (117, .return_, 1)]
theorem dtX4_lay : th_dec cX4_lay tbX4_lay = true := by decide +kernel
section
variable {p0 : Program} {l : Launch} {e : Env} {s : State} {m : MethodId} {args : Array Value} {below : List Frame} {meth : Method} {c : Code} {D : va_G} {cI cZ : ClassId} {ad : Nat → Nat} {rr : Unit} {hh : th_H}
set_option maxHeartbeats 4000000 in
set_option maxRecDepth 100000 in
theorem tX4_lay_c97 (X : th_X p0 s m args meth c D cI cZ ad LM 9 RX4 cX4_lay none) : ∀ (n : Nat) (y1 : Int32) (y8 : Int32) (h : th_H), fX4_lay_c97 n y1 y8 h = some (rr, hh) → th_V p0 l e { frames := 1, cells := 0, slots := 0, locals := 22 } s m args below meth c D cI cZ ad LM 9 none hh 97 [.ref 0, .int y1, .null, .null, .null, .null, .null, .null, .int y8] [] h := by
  intro n
  induction n with
  | zero => intro y1 y8 h hf; cases hf
  | succ n ih =>
    intro y1 y8 h hf
    rw [fX4_lay_c97] at hf
    refine V_iload (pc := 97) X (th_da dtX4_lay 59 rfl) rfl ?_
    refine V_bipush (pc := 99) (v := 10) X (th_da dtX4_lay 60 rfl) (by decide) ?_
    refine V_icmp_ge (pc := 101) (tgt := 117) X (th_da dtX4_lay 61 rfl) (by decide) (fun c1 => ?_) (fun c1 => ?_)
    · rw [if_pos c1] at hf
      refine V_aload_n (pc := 104) X (th_da dtX4_lay 62 rfl) rfl ?_
      refine V_iload_n (pc := 105) X (th_da dtX4_lay 63 rfl) rfl ?_
      refine V_iload (pc := 106) X (th_da dtX4_lay 64 rfl) rfl ?_
      obtain ⟨u2, h2, e2, hf⟩ := th_bd_some hf
      refine V_callVv (pc := 108) (q := 0) (As := [.int y1, .int y8]) X (th_da dtX4_lay 65 rfl) (mX4_knowsNothing l _ _ _ _ _ e2) wcd_X4_knowsNothing wml_X4_94 wim_X4_knowsNothing wse_X4_knowsNothing win_X4_knowsNothing hd_X4_knowsNothing ⟨Nat.le_of_ble_eq_true rfl, Nat.le_of_ble_eq_true rfl⟩ (Nat.le_of_ble_eq_true rfl) rfl rfl rfl ?_
      refine V_iinc (pc := 111) (v := y8 + 1) (ls2 := [.ref 0, .int y1, .null, .null, .null, .null, .null, .null, .int (y8 + 1)]) X (th_da dtX4_lay 66 rfl) rfl rfl (Nat.le_of_ble_eq_true rfl) rfl rfl ?_
      refine V_goto (pc := 114) (tgt := 97) X (th_da dtX4_lay 67 rfl) (by decide) ?_
      exact ih _ _ _ hf
    · rw [if_neg c1] at hf
      exact V_vretF (pc := 117) X (th_da dtX4_lay 68 rfl) hf
set_option maxHeartbeats 4000000 in
set_option maxRecDepth 100000 in
theorem tX4_lay_c9 (X : th_X p0 s m args meth c D cI cZ ad LM 9 RX4 cX4_lay none) : ∀ (n : Nat) (y1 : Int32) (y2 : Int32) (y3 : Int32) (y4 : Int32) (y5 : Int32) (y6 : Int32) (y7 : Int32) (y8 : Int32) (h : th_H), fX4_lay_c9 n y1 y2 y3 y4 y5 y6 y7 y8 h = some (rr, hh) → th_V p0 l e { frames := 1, cells := 0, slots := 0, locals := 22 } s m args below meth c D cI cZ ad LM 9 none hh 9 [.ref 0, .int y1, .int y2, .int y3, .int y4, .int y5, .int y6, .int y7, .int y8] [] h := by
  intro n
  induction n with
  | zero => intro y1 y2 y3 y4 y5 y6 y7 y8 h hf; cases hf
  | succ n ih =>
    intro y1 y2 y3 y4 y5 y6 y7 y8 h hf
    rw [fX4_lay_c9] at hf
    refine V_iload (pc := 9) X (th_da dtX4_lay 5 rfl) rfl ?_
    refine V_bipush (pc := 11) (v := 11) X (th_da dtX4_lay 6 rfl) (by decide) ?_
    refine V_icmp_ge (pc := 13) (tgt := 33) X (th_da dtX4_lay 7 rfl) (by decide) (fun c1 => ?_) (fun c1 => ?_)
    · rw [if_pos c1] at hf
      refine V_aload_n (pc := 16) X (th_da dtX4_lay 8 rfl) rfl ?_
      refine V_getR (pc := 17) (j := 2) (t := 2) X (th_da dtX4_lay 9 rfl) wfl_X4_15 iX4 rfl rfl (Nat.le_of_ble_eq_true rfl) rfl ?_
      refine V_iload (pc := 20) X (th_da dtX4_lay 10 rfl) rfl ?_
      refine V_iload (pc := 22) X (th_da dtX4_lay 11 rfl) rfl ?_
      refine V_iadd (pc := 24) X (th_da dtX4_lay 12 rfl) ?_
      refine V_iconst (pc := 25) (v := 0) X (th_da dtX4_lay 13 rfl) (by decide) ?_
      obtain ⟨h2, e2, g2, hf⟩ := th_wr_some hf
      refine V_iast (pc := 26) X (th_da dtX4_lay 14 rfl) rfl g2 e2 ?_
      refine V_iinc (pc := 27) (v := y8 + 1) (ls2 := [.ref 0, .int y1, .int y2, .int y3, .int y4, .int y5, .int y6, .int y7, .int (y8 + 1)]) X (th_da dtX4_lay 15 rfl) rfl rfl (Nat.le_of_ble_eq_true rfl) rfl rfl ?_
      refine V_goto (pc := 30) (tgt := 9) X (th_da dtX4_lay 16 rfl) (by decide) ?_
      exact ih _ _ _ _ _ _ _ _ _ hf
    · rw [if_neg c1] at hf
      refine V_aload_n (pc := 33) X (th_da dtX4_lay 17 rfl) rfl ?_
      refine V_getR (pc := 34) (j := 2) (t := 2) X (th_da dtX4_lay 18 rfl) wfl_X4_15 iX4 rfl rfl (Nat.le_of_ble_eq_true rfl) rfl ?_
      refine V_iload (pc := 37) X (th_da dtX4_lay 19 rfl) rfl ?_
      refine V_iconst (pc := 39) (v := 1) X (th_da dtX4_lay 20 rfl) (by decide) ?_
      obtain ⟨h3, e3, g3, hf⟩ := th_wr_some hf
      refine V_iast (pc := 40) X (th_da dtX4_lay 21 rfl) rfl g3 e3 ?_
      refine V_aload_n (pc := 41) X (th_da dtX4_lay 22 rfl) rfl ?_
      refine V_getR (pc := 42) (j := 2) (t := 2) X (th_da dtX4_lay 23 rfl) wfl_X4_15 iX4 rfl rfl (Nat.le_of_ble_eq_true rfl) rfl ?_
      refine V_iload (pc := 45) X (th_da dtX4_lay 24 rfl) rfl ?_
      refine V_iconst (pc := 47) (v := 1) X (th_da dtX4_lay 25 rfl) (by decide) ?_
      refine V_iadd (pc := 48) X (th_da dtX4_lay 26 rfl) ?_
      refine V_iload_n (pc := 49) X (th_da dtX4_lay 27 rfl) rfl ?_
      obtain ⟨h4, e4, g4, hf⟩ := th_wr_some hf
      refine V_iast (pc := 50) X (th_da dtX4_lay 28 rfl) rfl g4 e4 ?_
      refine V_aload_n (pc := 51) X (th_da dtX4_lay 29 rfl) rfl ?_
      refine V_getR (pc := 52) (j := 2) (t := 2) X (th_da dtX4_lay 30 rfl) wfl_X4_15 iX4 rfl rfl (Nat.le_of_ble_eq_true rfl) rfl ?_
      refine V_iload (pc := 55) X (th_da dtX4_lay 31 rfl) rfl ?_
      refine V_iconst (pc := 57) (v := 2) X (th_da dtX4_lay 32 rfl) (by decide) ?_
      refine V_iadd (pc := 58) X (th_da dtX4_lay 33 rfl) ?_
      refine V_iload_n (pc := 59) X (th_da dtX4_lay 34 rfl) rfl ?_
      obtain ⟨h5, e5, g5, hf⟩ := th_wr_some hf
      refine V_iast (pc := 60) X (th_da dtX4_lay 35 rfl) rfl g5 e5 ?_
      refine V_aload_n (pc := 61) X (th_da dtX4_lay 36 rfl) rfl ?_
      refine V_getR (pc := 62) (j := 2) (t := 2) X (th_da dtX4_lay 37 rfl) wfl_X4_15 iX4 rfl rfl (Nat.le_of_ble_eq_true rfl) rfl ?_
      refine V_iload (pc := 65) X (th_da dtX4_lay 38 rfl) rfl ?_
      refine V_iconst (pc := 67) (v := 3) X (th_da dtX4_lay 39 rfl) (by decide) ?_
      refine V_iadd (pc := 68) X (th_da dtX4_lay 40 rfl) ?_
      refine V_iload (pc := 69) X (th_da dtX4_lay 41 rfl) rfl ?_
      obtain ⟨h6, e6, g6, hf⟩ := th_wr_some hf
      refine V_iast (pc := 71) X (th_da dtX4_lay 42 rfl) rfl g6 e6 ?_
      refine V_aload_n (pc := 72) X (th_da dtX4_lay 43 rfl) rfl ?_
      refine V_getR (pc := 73) (j := 2) (t := 2) X (th_da dtX4_lay 44 rfl) wfl_X4_15 iX4 rfl rfl (Nat.le_of_ble_eq_true rfl) rfl ?_
      refine V_iload (pc := 76) X (th_da dtX4_lay 45 rfl) rfl ?_
      refine V_iconst (pc := 78) (v := 4) X (th_da dtX4_lay 46 rfl) (by decide) ?_
      refine V_iadd (pc := 79) X (th_da dtX4_lay 47 rfl) ?_
      refine V_iload (pc := 80) X (th_da dtX4_lay 48 rfl) rfl ?_
      obtain ⟨h7, e7, g7, hf⟩ := th_wr_some hf
      refine V_iast (pc := 82) X (th_da dtX4_lay 49 rfl) rfl g7 e7 ?_
      refine V_aload_n (pc := 83) X (th_da dtX4_lay 50 rfl) rfl ?_
      refine V_getR (pc := 84) (j := 2) (t := 2) X (th_da dtX4_lay 51 rfl) wfl_X4_15 iX4 rfl rfl (Nat.le_of_ble_eq_true rfl) rfl ?_
      refine V_iload (pc := 87) X (th_da dtX4_lay 52 rfl) rfl ?_
      refine V_iconst (pc := 89) (v := 5) X (th_da dtX4_lay 53 rfl) (by decide) ?_
      refine V_iadd (pc := 90) X (th_da dtX4_lay 54 rfl) ?_
      refine V_iload (pc := 91) X (th_da dtX4_lay 55 rfl) rfl ?_
      obtain ⟨h8, e8, g8, hf⟩ := th_wr_some hf
      refine V_iast (pc := 93) X (th_da dtX4_lay 56 rfl) rfl g8 e8 ?_
      refine V_iconst (pc := 94) (v := 0) X (th_da dtX4_lay 57 rfl) (by decide) ?_
      refine V_istore (pc := 95) (ls2 := [.ref 0, .int y1, .int y2, .int y3, .int y4, .int y5, .int y6, .int y7, .int 0]) X (th_da dtX4_lay 58 rfl) (Nat.le_of_ble_eq_true rfl) rfl rfl ?_
      refine V_mask [true, true, false, false, false, false, false, false, true] (ls2 := [.ref 0, .int y1, .null, .null, .null, .null, .null, .null, .int 0]) rfl ?_
      exact tX4_lay_c97 X _ _ _ _ hf
set_option maxHeartbeats 4000000 in
set_option maxRecDepth 100000 in
theorem mX4_lay (l : Launch) (x1 : Int32) (x2 : Int32) (x3 : Int32) (x4 : Int32) (x5 : Int32) (x6 : Int32) (h : th_H) (rr : Unit) (hh : th_H) (hf : fX4_lay x1 x2 x3 x4 x5 x6 h = some (rr, hh)) : th_MI l LM yX4_lay cX4_lay 9 none 1 22 [.ref 0, .int x1, .int x2, .int x3, .int x4, .int x5, .int x6] h none hh := by
  refine th_MI_of (ls := [.ref 0, .int x1, .int x2, .int x3, .int x4, .int x5, .int x6, .null, .null]) RX4 rfl rfl rfl (Nat.le_of_ble_eq_true rfl) ?_
  intro p0 e s m args below meth c D cI cZ ad X
  unfold fX4_lay at hf
  refine V_iload_n (pc := 0) X (th_da dtX4_lay 0 rfl) rfl ?_
  obtain ⟨u1, h1, e1, hf⟩ := th_bd_some hf
  refine V_callSi (pc := 1) (As := [.int x1]) X (th_da dtX4_lay 1 rfl) (mX4_at l _ _ _ _ e1) wcd_X4_at wml_X4_71 wst_X4_at win_X4_at hd_X4_at ⟨Nat.le_of_ble_eq_true rfl, Nat.le_of_ble_eq_true rfl⟩ (Nat.le_of_ble_eq_true rfl) rfl ?_
  refine V_istore (pc := 4) (ls2 := [.ref 0, .int x1, .int x2, .int x3, .int x4, .int x5, .int x6, .int u1, .null]) X (th_da dtX4_lay 2 rfl) (Nat.le_of_ble_eq_true rfl) rfl rfl ?_
  refine V_iconst (pc := 6) (v := 0) X (th_da dtX4_lay 3 rfl) (by decide) ?_
  refine V_istore (pc := 7) (ls2 := [.ref 0, .int x1, .int x2, .int x3, .int x4, .int x5, .int x6, .int u1, .int 0]) X (th_da dtX4_lay 4 rfl) (Nat.le_of_ble_eq_true rfl) rfl rfl ?_
  exact tX4_lay_c9 X _ _ _ _ _ _ _ _ _ _ hf
end
def fX4_roomOf_c5 : Nat → Int32 → Int32 → Int32 → th_H → Option (Int32 × th_H)
  | 0, _, _, _, _ => none
  | n + 1, y1, y2, y3, h =>
    if (y3 < 10 : Prop) then
      if (((y1 >>> (y3 &&& 31)) &&& 1) = 1 : Prop) then
        th_rd h 2 643 ((3 : Int32) + y3) fun v3 =>
        th_bd (fX4_bound y3 h) fun u4 h4 =>
        th_bd (fX4_lesser y2 (v3 - u4) h4) fun u5 h5 =>
        fX4_roomOf_c5 n y1 u5 (y3 + 1) h5
      else
        fX4_roomOf_c5 n y1 y2 (y3 + 1) h
    else
      some (y2, h)
def fX4_roomOf (x1 : Int32) (h : th_H) : Option (Int32 × th_H) :=
  fX4_roomOf_c5 1000 x1 1000000 0 h
def tbX4_roomOf : List (Nat × Instr × Nat) := [(0, .ldc 93, 2), (2, .istore_n 2, 1), (3, .iconst 0, 1), (4, .istore_n 3, 1), (5, .iload_n 3, 1), (6, .bipush 10, 2), (8, .if_icmp .ge 41, 3), (11, .iload_n 1, 1), (12, .iload_n 3, 1), (13, .ishr, 1), (14, .iconst 1, 1), (15, .iand, 1), (16, .iconst 1, 1), (17, .if_icmp .ne 24, 3), (20, .iload_n 2, 1), (21, .aload_n 0, 1), (22, .getfield 15, 3), (25, .iconst 3, 1), (26, .iload_n 3, 1), (27, .iadd, 1), (28, .iaload, 1), (29, .aload_n 0, 1), (30, .iload_n 3, 1), (31, .invokevirtual 79, 3), (34, .isub, 1), (35, .invokestatic 108, 3), (38, .goto 4, 3), (41, .iload_n 2, 1), (42, .istore_n 2, 1), (43, .iinc 3 1, 3), (46, .goto (-41), 3), (49, .iload_n 2, 1), (50, .ireturn, 1)]
theorem dtX4_roomOf : th_dec cX4_roomOf tbX4_roomOf = true := by decide +kernel
section
variable {p0 : Program} {l : Launch} {e : Env} {s : State} {m : MethodId} {args : Array Value} {below : List Frame} {meth : Method} {c : Code} {D : va_G} {cI cZ : ClassId} {ad : Nat → Nat} {rr : Int32} {hh : th_H}
set_option maxHeartbeats 4000000 in
set_option maxRecDepth 100000 in
theorem tX4_roomOf_c5 (X : th_X p0 s m args meth c D cI cZ ad LM 4 RX4 cX4_roomOf (some .int)) : ∀ (n : Nat) (y1 : Int32) (y2 : Int32) (y3 : Int32) (h : th_H), fX4_roomOf_c5 n y1 y2 y3 h = some (rr, hh) → th_V p0 l e { frames := 3, cells := 0, slots := 0, locals := 65 } s m args below meth c D cI cZ ad LM 4 (some (.int rr)) hh 5 [.ref 0, .int y1, .int y2, .int y3] [] h := by
  intro n
  induction n with
  | zero => intro y1 y2 y3 h hf; cases hf
  | succ n ih =>
    intro y1 y2 y3 h hf
    rw [fX4_roomOf_c5] at hf
    refine V_iload_n (pc := 5) X (th_da dtX4_roomOf 4 rfl) rfl ?_
    refine V_bipush (pc := 6) (v := 10) X (th_da dtX4_roomOf 5 rfl) (by decide) ?_
    refine V_icmp_ge (pc := 8) (tgt := 49) X (th_da dtX4_roomOf 6 rfl) (by decide) (fun c1 => ?_) (fun c1 => ?_)
    · rw [if_pos c1] at hf
      refine V_iload_n (pc := 11) X (th_da dtX4_roomOf 7 rfl) rfl ?_
      refine V_iload_n (pc := 12) X (th_da dtX4_roomOf 8 rfl) rfl ?_
      refine V_ishr (pc := 13) X (th_da dtX4_roomOf 9 rfl) ?_
      refine V_iconst (pc := 14) (v := 1) X (th_da dtX4_roomOf 10 rfl) (by decide) ?_
      refine V_iand (pc := 15) X (th_da dtX4_roomOf 11 rfl) ?_
      refine V_iconst (pc := 16) (v := 1) X (th_da dtX4_roomOf 12 rfl) (by decide) ?_
      refine V_icmp_ne (pc := 17) (tgt := 41) X (th_da dtX4_roomOf 13 rfl) (by decide) (fun c2 => ?_) (fun c2 => ?_)
      · rw [if_pos c2] at hf
        refine V_iload_n (pc := 20) X (th_da dtX4_roomOf 14 rfl) rfl ?_
        refine V_aload_n (pc := 21) X (th_da dtX4_roomOf 15 rfl) rfl ?_
        refine V_getR (pc := 22) (j := 2) (t := 2) X (th_da dtX4_roomOf 16 rfl) wfl_X4_15 iX4 rfl rfl (Nat.le_of_ble_eq_true rfl) rfl ?_
        refine V_iconst (pc := 25) (v := 3) X (th_da dtX4_roomOf 17 rfl) (by decide) ?_
        refine V_iload_n (pc := 26) X (th_da dtX4_roomOf 18 rfl) rfl ?_
        refine V_iadd (pc := 27) X (th_da dtX4_roomOf 19 rfl) ?_
        obtain ⟨v3, e3, g3, hf⟩ := th_rd_some hf
        refine V_iald (pc := 28) X (th_da dtX4_roomOf 20 rfl) rfl g3 e3 ?_
        refine V_aload_n (pc := 29) X (th_da dtX4_roomOf 21 rfl) rfl ?_
        refine V_iload_n (pc := 30) X (th_da dtX4_roomOf 22 rfl) rfl ?_
        obtain ⟨u4, h4, e4, hf⟩ := th_bd_some hf
        refine V_callVi (pc := 31) (q := 0) (As := [.int y3]) X (th_da dtX4_roomOf 23 rfl) (mX4_bound l _ _ _ _ e4) wcd_X4_bound wml_X4_79 wim_X4_bound wse_X4_bound win_X4_bound hd_X4_bound ⟨Nat.le_of_ble_eq_true rfl, Nat.le_of_ble_eq_true rfl⟩ (Nat.le_of_ble_eq_true rfl) rfl rfl rfl ?_
        refine V_isub (pc := 34) X (th_da dtX4_roomOf 24 rfl) ?_
        obtain ⟨u5, h5, e5, hf⟩ := th_bd_some hf
        refine V_callSi (pc := 35) (As := [.int y2, .int (v3 - u4)]) X (th_da dtX4_roomOf 25 rfl) (mX4_lesser l _ _ _ _ _ e5) wcd_X4_lesser wml_X4_108 wst_X4_lesser win_X4_lesser hd_X4_lesser ⟨Nat.le_of_ble_eq_true rfl, Nat.le_of_ble_eq_true rfl⟩ (Nat.le_of_ble_eq_true rfl) rfl ?_
        refine V_goto (pc := 38) (tgt := 42) X (th_da dtX4_roomOf 26 rfl) (by decide) ?_
        refine V_istore_n (pc := 42) (ls2 := [.ref 0, .int y1, .int u5, .int y3]) X (th_da dtX4_roomOf 28 rfl) (Nat.le_of_ble_eq_true rfl) rfl rfl ?_
        refine V_iinc (pc := 43) (v := y3 + 1) (ls2 := [.ref 0, .int y1, .int u5, .int (y3 + 1)]) X (th_da dtX4_roomOf 29 rfl) rfl rfl (Nat.le_of_ble_eq_true rfl) rfl rfl ?_
        refine V_goto (pc := 46) (tgt := 5) X (th_da dtX4_roomOf 30 rfl) (by decide) ?_
        exact ih _ _ _ _ hf
      · rw [if_neg c2] at hf
        refine V_iload_n (pc := 41) X (th_da dtX4_roomOf 27 rfl) rfl ?_
        refine V_istore_n (pc := 42) (ls2 := [.ref 0, .int y1, .int y2, .int y3]) X (th_da dtX4_roomOf 28 rfl) (Nat.le_of_ble_eq_true rfl) rfl rfl ?_
        refine V_iinc (pc := 43) (v := y3 + 1) (ls2 := [.ref 0, .int y1, .int y2, .int (y3 + 1)]) X (th_da dtX4_roomOf 29 rfl) rfl rfl (Nat.le_of_ble_eq_true rfl) rfl rfl ?_
        refine V_goto (pc := 46) (tgt := 5) X (th_da dtX4_roomOf 30 rfl) (by decide) ?_
        exact ih _ _ _ _ hf
    · rw [if_neg c1] at hf
      refine V_iload_n (pc := 49) X (th_da dtX4_roomOf 31 rfl) rfl ?_
      exact V_iretF (pc := 50) X (th_da dtX4_roomOf 32 rfl) hf
set_option maxHeartbeats 4000000 in
set_option maxRecDepth 100000 in
theorem mX4_roomOf (l : Launch) (x1 : Int32) (h : th_H) (rr : Int32) (hh : th_H) (hf : fX4_roomOf x1 h = some (rr, hh)) : th_MI l LM yX4_roomOf cX4_roomOf 4 (some .int) 3 65 [.ref 0, .int x1] h (some (.int rr)) hh := by
  refine th_MI_of (ls := [.ref 0, .int x1, .null, .null]) RX4 rfl rfl rfl (Nat.le_of_ble_eq_true rfl) ?_
  intro p0 e s m args below meth c D cI cZ ad X
  unfold fX4_roomOf at hf
  refine V_ldc (pc := 0) (v := 1000000) X (th_da dtX4_roomOf 0 rfl) wco_X4_93 ?_
  refine V_istore_n (pc := 2) (ls2 := [.ref 0, .int x1, .int 1000000, .null]) X (th_da dtX4_roomOf 1 rfl) (Nat.le_of_ble_eq_true rfl) rfl rfl ?_
  refine V_iconst (pc := 3) (v := 0) X (th_da dtX4_roomOf 2 rfl) (by decide) ?_
  refine V_istore_n (pc := 4) (ls2 := [.ref 0, .int x1, .int 1000000, .int 0]) X (th_da dtX4_roomOf 3 rfl) (Nat.le_of_ble_eq_true rfl) rfl rfl ?_
  exact tX4_roomOf_c5 X _ _ _ _ _ hf
end
def fX4_whyNot (x1 : Int32) (x2 : Int32) (x3 : Int32) (x4 : Int32) (h : th_H) : Option (Int32 × th_H) :=
  th_bd (fX4_areLinks x1 h) fun u1 h1 =>
  if (u1 = 0 : Prop) then
    some (0, h1)
  else
    th_bd (fX4_in (Int32.toInt64 x2) 1 9 h1) fun u3 h3 =>
    if (u3 = 0 : Prop) then
      some (0, h3)
    else
      th_bd (fX4_in (Int32.toInt64 x3) 0 1000000 h3) fun u5 h5 =>
      if (u5 = 0 : Prop) then
        some (0, h5)
      else
        th_bd (fX4_in (Int32.toInt64 x4) (Int32.toInt64 x3) 1000000 h5) fun u7 h7 =>
        if (u7 = 0 : Prop) then
          some (0, h7)
        else
          th_bd (fX4_freeNumber h7) fun u9 h9 =>
          if (u9 = 20 : Prop) then
            some (3, h9)
          else
            th_bd (fX4_roomOf x1 h9) fun u11 h11 =>
            if (u11 < x3 : Prop) then
              some (4, h11)
            else
              some ((-1), h11)
def tbX4_whyNot : List (Nat × Instr × Nat) := [(0, .iload_n 1, 1), (1, .invokestatic 98, 3), (4, .ifCond .eq 41, 3), (7, .iload_n 2, 1), (8, .i2l, 1), (9, .lconst 1, 1), (10, .ldc2_w 67, 3), (13, .invokestatic 63, 3), (16, .ifCond .eq 29, 3), (19, .iload_n 3, 1), (20, .i2l, 1), (21, .lconst 0, 1), (22, .ldc2_w 86, 3), (25, .invokestatic 63, 3), (28, .ifCond .eq 17, 3), (31, .iload 4, 2), (33, .i2l, 1), (34, .iload_n 3, 1), (35, .i2l, 1), (36, .ldc2_w 86, 3), (39, .invokestatic 63, 3), (42, .ifCond .ne 5, 3), (45, .iconst 0, 1), (46, .ireturn, 1), (47, .aload_n 0, 1), (48, .invokevirtual 101, 3), (51, .bipush 20, 2), (53, .if_icmp .ne 5, 3), (56, .iconst 3, 1), (57, .ireturn, 1), (58, .iload_n 3, 1), (59, .aload_n 0, 1), (60, .iload_n 1, 1), (61, .invokevirtual 105, 3), (64, .if_icmp .le 7, 3), (67, .iconst 4, 1), (68, .goto 4, 3), (71, .iconst (-1), 1), (72, .ireturn, 1)]
theorem dtX4_whyNot : th_dec cX4_whyNot tbX4_whyNot = true := by decide +kernel
section
variable {p0 : Program} {l : Launch} {e : Env} {s : State} {m : MethodId} {args : Array Value} {below : List Frame} {meth : Method} {c : Code} {D : va_G} {cI cZ : ClassId} {ad : Nat → Nat} {rr : Int32} {hh : th_H}
set_option maxHeartbeats 4000000 in
set_option maxRecDepth 100000 in
theorem mX4_whyNot (l : Launch) (x1 : Int32) (x2 : Int32) (x3 : Int32) (x4 : Int32) (h : th_H) (rr : Int32) (hh : th_H) (hf : fX4_whyNot x1 x2 x3 x4 h = some (rr, hh)) : th_MI l LM yX4_whyNot cX4_whyNot 5 (some .int) 4 88 [.ref 0, .int x1, .int x2, .int x3, .int x4] h (some (.int rr)) hh := by
  refine th_MI_of (ls := [.ref 0, .int x1, .int x2, .int x3, .int x4]) RX4 rfl rfl rfl (Nat.le_of_ble_eq_true rfl) ?_
  intro p0 e s m args below meth c D cI cZ ad X
  unfold fX4_whyNot at hf
  refine V_iload_n (pc := 0) X (th_da dtX4_whyNot 0 rfl) rfl ?_
  obtain ⟨u1, h1, e1, hf⟩ := th_bd_some hf
  refine V_callSi (pc := 1) (As := [.int x1]) X (th_da dtX4_whyNot 1 rfl) (mX4_areLinks l _ _ _ _ e1) wcd_X4_areLinks wml_X4_98 wst_X4_areLinks win_X4_areLinks hd_X4_areLinks ⟨Nat.le_of_ble_eq_true rfl, Nat.le_of_ble_eq_true rfl⟩ (Nat.le_of_ble_eq_true rfl) rfl ?_
  refine V_if_eq (pc := 4) (tgt := 45) X (th_da dtX4_whyNot 2 rfl) (by decide) (fun c2 => ?_) (fun c2 => ?_)
  · rw [if_pos c2] at hf
    refine V_iconst (pc := 45) (v := 0) X (th_da dtX4_whyNot 22 rfl) (by decide) ?_
    exact V_iretF (pc := 46) X (th_da dtX4_whyNot 23 rfl) hf
  · rw [if_neg c2] at hf
    refine V_iload_n (pc := 7) X (th_da dtX4_whyNot 3 rfl) rfl ?_
    refine V_i2l (pc := 8) X (th_da dtX4_whyNot 4 rfl) ?_
    refine V_lconst (pc := 9) (v := 1) X (th_da dtX4_whyNot 5 rfl) (by decide) ?_
    refine V_ldc2 (pc := 10) (v := 9) X (th_da dtX4_whyNot 6 rfl) wcl_X4_67 ?_
    obtain ⟨u3, h3, e3, hf⟩ := th_bd_some hf
    refine V_callSi (pc := 13) (As := [.long (Int32.toInt64 x2), .long 1, .long 9]) X (th_da dtX4_whyNot 7 rfl) (mX4_in l _ _ _ _ _ _ e3) wcd_X4_in wml_X4_63 wst_X4_in win_X4_in hd_X4_in ⟨Nat.le_of_ble_eq_true rfl, Nat.le_of_ble_eq_true rfl⟩ (Nat.le_of_ble_eq_true rfl) rfl ?_
    refine V_if_eq (pc := 16) (tgt := 45) X (th_da dtX4_whyNot 8 rfl) (by decide) (fun c4 => ?_) (fun c4 => ?_)
    · rw [if_pos c4] at hf
      refine V_iconst (pc := 45) (v := 0) X (th_da dtX4_whyNot 22 rfl) (by decide) ?_
      exact V_iretF (pc := 46) X (th_da dtX4_whyNot 23 rfl) hf
    · rw [if_neg c4] at hf
      refine V_iload_n (pc := 19) X (th_da dtX4_whyNot 9 rfl) rfl ?_
      refine V_i2l (pc := 20) X (th_da dtX4_whyNot 10 rfl) ?_
      refine V_lconst (pc := 21) (v := 0) X (th_da dtX4_whyNot 11 rfl) (by decide) ?_
      refine V_ldc2 (pc := 22) (v := 1000000) X (th_da dtX4_whyNot 12 rfl) wcl_X4_86 ?_
      obtain ⟨u5, h5, e5, hf⟩ := th_bd_some hf
      refine V_callSi (pc := 25) (As := [.long (Int32.toInt64 x3), .long 0, .long 1000000]) X (th_da dtX4_whyNot 13 rfl) (mX4_in l _ _ _ _ _ _ e5) wcd_X4_in wml_X4_63 wst_X4_in win_X4_in hd_X4_in ⟨Nat.le_of_ble_eq_true rfl, Nat.le_of_ble_eq_true rfl⟩ (Nat.le_of_ble_eq_true rfl) rfl ?_
      refine V_if_eq (pc := 28) (tgt := 45) X (th_da dtX4_whyNot 14 rfl) (by decide) (fun c6 => ?_) (fun c6 => ?_)
      · rw [if_pos c6] at hf
        refine V_iconst (pc := 45) (v := 0) X (th_da dtX4_whyNot 22 rfl) (by decide) ?_
        exact V_iretF (pc := 46) X (th_da dtX4_whyNot 23 rfl) hf
      · rw [if_neg c6] at hf
        refine V_iload (pc := 31) X (th_da dtX4_whyNot 15 rfl) rfl ?_
        refine V_i2l (pc := 33) X (th_da dtX4_whyNot 16 rfl) ?_
        refine V_iload_n (pc := 34) X (th_da dtX4_whyNot 17 rfl) rfl ?_
        refine V_i2l (pc := 35) X (th_da dtX4_whyNot 18 rfl) ?_
        refine V_ldc2 (pc := 36) (v := 1000000) X (th_da dtX4_whyNot 19 rfl) wcl_X4_86 ?_
        obtain ⟨u7, h7, e7, hf⟩ := th_bd_some hf
        refine V_callSi (pc := 39) (As := [.long (Int32.toInt64 x4), .long (Int32.toInt64 x3), .long 1000000]) X (th_da dtX4_whyNot 20 rfl) (mX4_in l _ _ _ _ _ _ e7) wcd_X4_in wml_X4_63 wst_X4_in win_X4_in hd_X4_in ⟨Nat.le_of_ble_eq_true rfl, Nat.le_of_ble_eq_true rfl⟩ (Nat.le_of_ble_eq_true rfl) rfl ?_
        refine V_if_ne (pc := 42) (tgt := 47) X (th_da dtX4_whyNot 21 rfl) (by decide) (fun c8 => ?_) (fun c8 => ?_)
        · rw [if_pos c8] at hf
          refine V_iconst (pc := 45) (v := 0) X (th_da dtX4_whyNot 22 rfl) (by decide) ?_
          exact V_iretF (pc := 46) X (th_da dtX4_whyNot 23 rfl) hf
        · rw [if_neg c8] at hf
          refine V_aload_n (pc := 47) X (th_da dtX4_whyNot 24 rfl) rfl ?_
          obtain ⟨u9, h9, e9, hf⟩ := th_bd_some hf
          refine V_callVi (pc := 48) (q := 0) (As := []) X (th_da dtX4_whyNot 25 rfl) (mX4_freeNumber l _ _ _ e9) wcd_X4_freeNumber wml_X4_101 wim_X4_freeNumber wse_X4_freeNumber win_X4_freeNumber hd_X4_freeNumber ⟨Nat.le_of_ble_eq_true rfl, Nat.le_of_ble_eq_true rfl⟩ (Nat.le_of_ble_eq_true rfl) rfl rfl rfl ?_
          refine V_bipush (pc := 51) (v := 20) X (th_da dtX4_whyNot 26 rfl) (by decide) ?_
          refine V_icmp_ne (pc := 53) (tgt := 58) X (th_da dtX4_whyNot 27 rfl) (by decide) (fun c10 => ?_) (fun c10 => ?_)
          · rw [if_pos c10] at hf
            refine V_iconst (pc := 56) (v := 3) X (th_da dtX4_whyNot 28 rfl) (by decide) ?_
            exact V_iretF (pc := 57) X (th_da dtX4_whyNot 29 rfl) hf
          · rw [if_neg c10] at hf
            refine V_iload_n (pc := 58) X (th_da dtX4_whyNot 30 rfl) rfl ?_
            refine V_aload_n (pc := 59) X (th_da dtX4_whyNot 31 rfl) rfl ?_
            refine V_iload_n (pc := 60) X (th_da dtX4_whyNot 32 rfl) rfl ?_
            obtain ⟨u11, h11, e11, hf⟩ := th_bd_some hf
            refine V_callVi (pc := 61) (q := 0) (As := [.int x1]) X (th_da dtX4_whyNot 33 rfl) (mX4_roomOf l _ _ _ _ e11) wcd_X4_roomOf wml_X4_105 wim_X4_roomOf wse_X4_roomOf win_X4_roomOf hd_X4_roomOf ⟨Nat.le_of_ble_eq_true rfl, Nat.le_of_ble_eq_true rfl⟩ (Nat.le_of_ble_eq_true rfl) rfl rfl rfl ?_
            refine V_icmp_le (pc := 64) (tgt := 71) X (th_da dtX4_whyNot 34 rfl) (by decide) (fun c12 => ?_) (fun c12 => ?_)
            · rw [if_pos c12] at hf
              refine V_iconst (pc := 67) (v := 4) X (th_da dtX4_whyNot 35 rfl) (by decide) ?_
              refine V_goto (pc := 68) (tgt := 72) X (th_da dtX4_whyNot 36 rfl) (by decide) ?_
              exact V_iretF (pc := 72) X (th_da dtX4_whyNot 38 rfl) hf
            · rw [if_neg c12] at hf
              refine V_iconst (pc := 71) (v := (-1)) X (th_da dtX4_whyNot 37 rfl) (by decide) ?_
              exact V_iretF (pc := 72) X (th_da dtX4_whyNot 38 rfl) hf
end
def fX4_come (x1 : Int32) (x2 : Int32) (x3 : Int32) (x4 : Int32) (x5 : Int32) (h : th_H) : Option (Int32 × th_H) :=
  th_st (th_up h 0 0 0) fun h1 =>
  th_bd (fX4_whyNot x2 x3 x4 x5 h1) fun u2 h2 =>
  if (u2 = 0 : Prop) then
    th_bd (fX4_refuse 0 h2) fun u4 h4 =>
    some (u4, h4)
  else
    th_bd (fX4_in (Int32.toInt64 x1) 0 999999 h2) fun u5 h5 =>
    if (u5 = 0 : Prop) then
      th_bd (fX4_refuse 0 h5) fun u7 h7 =>
      some (u7, h7)
    else
      th_bd (fX4_namedBy x1 h5) fun u8 h8 =>
      if (u8 = (-1) : Prop) then
        if (u2 = (-1) : Prop) then
          th_bd (fX4_freeNumber h8) fun u11 h11 =>
          th_bd (fX4_lay u11 x1 x2 x3 x4 x5 h11) fun _u12 h12 =>
          some (u11, h12)
        else
          th_bd (fX4_refuse u2 h8) fun u13 h13 =>
          some (u13, h13)
      else
        th_bd (fX4_refuse 2 h8) fun u14 h14 =>
        some (u14, h14)
def tbX4_come : List (Nat × Instr × Nat) := [(0, .aload_n 0, 1), (1, .iconst 0, 1), (2, .putfield 55, 3), (5, .aload_n 0, 1), (6, .iload_n 2, 1), (7, .iload_n 3, 1), (8, .iload 4, 2), (10, .iload 5, 2), (12, .invokevirtual 112, 3), (15, .istore 6, 2), (17, .iload 6, 2), (19, .ifCond .eq 15, 3), (22, .iload_n 1, 1), (23, .i2l, 1), (24, .lconst 0, 1), (25, .ldc2_w 116, 3), (28, .invokestatic 63, 3), (31, .ifCond .ne 9, 3), (34, .aload_n 0, 1), (35, .iconst 0, 1), (36, .invokevirtual 88, 3), (39, .ireturn, 1), (40, .aload_n 0, 1), (41, .iload_n 1, 1), (42, .invokevirtual 118, 3), (45, .iconst (-1), 1), (46, .if_icmp .eq 9, 3), (49, .aload_n 0, 1), (50, .iconst 2, 1), (51, .invokevirtual 88, 3), (54, .ireturn, 1), (55, .iload 6, 2), (57, .iconst (-1), 1), (58, .if_icmp .eq 10, 3), (61, .aload_n 0, 1), (62, .iload 6, 2), (64, .invokevirtual 88, 3), (67, .ireturn, 1), (68, .aload_n 0, 1), (69, .invokevirtual 101, 3), (72, .istore 7, 2), (74, .aload_n 0, 1), (75, .iload 7, 2), (77, .iload_n 1, 1), (78, .iload_n 2, 1), (79, .iload_n 3, 1), (80, .iload 4, 2), (82, .iload 5, 2), (84, .invokevirtual 121, 3), (87, .iload 7, 2), (89, .ireturn, 1)]
theorem dtX4_come : th_dec cX4_come tbX4_come = true := by decide +kernel
section
variable {p0 : Program} {l : Launch} {e : Env} {s : State} {m : MethodId} {args : Array Value} {below : List Frame} {meth : Method} {c : Code} {D : va_G} {cI cZ : ClassId} {ad : Nat → Nat} {rr : Int32} {hh : th_H}
set_option maxHeartbeats 4000000 in
set_option maxRecDepth 100000 in
theorem mX4_come (l : Launch) (x1 : Int32) (x2 : Int32) (x3 : Int32) (x4 : Int32) (x5 : Int32) (h : th_H) (rr : Int32) (hh : th_H) (hf : fX4_come x1 x2 x3 x4 x5 h = some (rr, hh)) : th_MI l LM yX4_come cX4_come 8 (some .int) 5 112 [.ref 0, .int x1, .int x2, .int x3, .int x4, .int x5] h (some (.int rr)) hh := by
  refine th_MI_of (ls := [.ref 0, .int x1, .int x2, .int x3, .int x4, .int x5, .null, .null]) RX4 rfl rfl rfl (Nat.le_of_ble_eq_true rfl) ?_
  intro p0 e s m args below meth c D cI cZ ad X
  unfold fX4_come at hf
  refine V_aload_n (pc := 0) X (th_da dtX4_come 0 rfl) rfl ?_
  refine V_iconst (pc := 1) (v := 0) X (th_da dtX4_come 1 rfl) (by decide) ?_
  obtain ⟨h1, e1, hf⟩ := th_st_some hf
  refine V_putI (pc := 2) (j := 0) (ty := .int) X (th_da dtX4_come 2 rfl) wfl_X4_55 iX4 rfl rfl (Nat.le_of_ble_eq_true rfl) rfl tyX4 tyX4_ok nmX4 rfl (tyX4_ok 0 (Nat.le_of_ble_eq_true rfl)) rfl rfl e1 ?_
  refine V_aload_n (pc := 5) X (th_da dtX4_come 3 rfl) rfl ?_
  refine V_iload_n (pc := 6) X (th_da dtX4_come 4 rfl) rfl ?_
  refine V_iload_n (pc := 7) X (th_da dtX4_come 5 rfl) rfl ?_
  refine V_iload (pc := 8) X (th_da dtX4_come 6 rfl) rfl ?_
  refine V_iload (pc := 10) X (th_da dtX4_come 7 rfl) rfl ?_
  obtain ⟨u2, h2, e2, hf⟩ := th_bd_some hf
  refine V_callVi (pc := 12) (q := 0) (As := [.int x2, .int x3, .int x4, .int x5]) X (th_da dtX4_come 8 rfl) (mX4_whyNot l _ _ _ _ _ _ _ e2) wcd_X4_whyNot wml_X4_112 wim_X4_whyNot wse_X4_whyNot win_X4_whyNot hd_X4_whyNot ⟨Nat.le_of_ble_eq_true rfl, Nat.le_of_ble_eq_true rfl⟩ (Nat.le_of_ble_eq_true rfl) rfl rfl rfl ?_
  refine V_istore (pc := 15) (ls2 := [.ref 0, .int x1, .int x2, .int x3, .int x4, .int x5, .int u2, .null]) X (th_da dtX4_come 9 rfl) (Nat.le_of_ble_eq_true rfl) rfl rfl ?_
  refine V_iload (pc := 17) X (th_da dtX4_come 10 rfl) rfl ?_
  refine V_if_eq (pc := 19) (tgt := 34) X (th_da dtX4_come 11 rfl) (by decide) (fun c3 => ?_) (fun c3 => ?_)
  · rw [if_pos c3] at hf
    refine V_aload_n (pc := 34) X (th_da dtX4_come 18 rfl) rfl ?_
    refine V_iconst (pc := 35) (v := 0) X (th_da dtX4_come 19 rfl) (by decide) ?_
    obtain ⟨u4, h4, e4, hf⟩ := th_bd_some hf
    refine V_callVi (pc := 36) (q := 0) (As := [.int 0]) X (th_da dtX4_come 20 rfl) (mX4_refuse l _ _ _ _ e4) wcd_X4_refuse wml_X4_88 wim_X4_refuse wse_X4_refuse win_X4_refuse hd_X4_refuse ⟨Nat.le_of_ble_eq_true rfl, Nat.le_of_ble_eq_true rfl⟩ (Nat.le_of_ble_eq_true rfl) rfl rfl rfl ?_
    exact V_iretF (pc := 39) X (th_da dtX4_come 21 rfl) hf
  · rw [if_neg c3] at hf
    refine V_iload_n (pc := 22) X (th_da dtX4_come 12 rfl) rfl ?_
    refine V_i2l (pc := 23) X (th_da dtX4_come 13 rfl) ?_
    refine V_lconst (pc := 24) (v := 0) X (th_da dtX4_come 14 rfl) (by decide) ?_
    refine V_ldc2 (pc := 25) (v := 999999) X (th_da dtX4_come 15 rfl) wcl_X4_116 ?_
    obtain ⟨u5, h5, e5, hf⟩ := th_bd_some hf
    refine V_callSi (pc := 28) (As := [.long (Int32.toInt64 x1), .long 0, .long 999999]) X (th_da dtX4_come 16 rfl) (mX4_in l _ _ _ _ _ _ e5) wcd_X4_in wml_X4_63 wst_X4_in win_X4_in hd_X4_in ⟨Nat.le_of_ble_eq_true rfl, Nat.le_of_ble_eq_true rfl⟩ (Nat.le_of_ble_eq_true rfl) rfl ?_
    refine V_if_ne (pc := 31) (tgt := 40) X (th_da dtX4_come 17 rfl) (by decide) (fun c6 => ?_) (fun c6 => ?_)
    · rw [if_pos c6] at hf
      refine V_aload_n (pc := 34) X (th_da dtX4_come 18 rfl) rfl ?_
      refine V_iconst (pc := 35) (v := 0) X (th_da dtX4_come 19 rfl) (by decide) ?_
      obtain ⟨u7, h7, e7, hf⟩ := th_bd_some hf
      refine V_callVi (pc := 36) (q := 0) (As := [.int 0]) X (th_da dtX4_come 20 rfl) (mX4_refuse l _ _ _ _ e7) wcd_X4_refuse wml_X4_88 wim_X4_refuse wse_X4_refuse win_X4_refuse hd_X4_refuse ⟨Nat.le_of_ble_eq_true rfl, Nat.le_of_ble_eq_true rfl⟩ (Nat.le_of_ble_eq_true rfl) rfl rfl rfl ?_
      exact V_iretF (pc := 39) X (th_da dtX4_come 21 rfl) hf
    · rw [if_neg c6] at hf
      refine V_aload_n (pc := 40) X (th_da dtX4_come 22 rfl) rfl ?_
      refine V_iload_n (pc := 41) X (th_da dtX4_come 23 rfl) rfl ?_
      obtain ⟨u8, h8, e8, hf⟩ := th_bd_some hf
      refine V_callVi (pc := 42) (q := 0) (As := [.int x1]) X (th_da dtX4_come 24 rfl) (mX4_namedBy l _ _ _ _ e8) wcd_X4_namedBy wml_X4_118 wim_X4_namedBy wse_X4_namedBy win_X4_namedBy hd_X4_namedBy ⟨Nat.le_of_ble_eq_true rfl, Nat.le_of_ble_eq_true rfl⟩ (Nat.le_of_ble_eq_true rfl) rfl rfl rfl ?_
      refine V_iconst (pc := 45) (v := (-1)) X (th_da dtX4_come 25 rfl) (by decide) ?_
      refine V_icmp_eq (pc := 46) (tgt := 55) X (th_da dtX4_come 26 rfl) (by decide) (fun c9 => ?_) (fun c9 => ?_)
      · rw [if_pos c9] at hf
        refine V_iload (pc := 55) X (th_da dtX4_come 31 rfl) rfl ?_
        refine V_iconst (pc := 57) (v := (-1)) X (th_da dtX4_come 32 rfl) (by decide) ?_
        refine V_icmp_eq (pc := 58) (tgt := 68) X (th_da dtX4_come 33 rfl) (by decide) (fun c10 => ?_) (fun c10 => ?_)
        · rw [if_pos c10] at hf
          refine V_aload_n (pc := 68) X (th_da dtX4_come 38 rfl) rfl ?_
          obtain ⟨u11, h11, e11, hf⟩ := th_bd_some hf
          refine V_callVi (pc := 69) (q := 0) (As := []) X (th_da dtX4_come 39 rfl) (mX4_freeNumber l _ _ _ e11) wcd_X4_freeNumber wml_X4_101 wim_X4_freeNumber wse_X4_freeNumber win_X4_freeNumber hd_X4_freeNumber ⟨Nat.le_of_ble_eq_true rfl, Nat.le_of_ble_eq_true rfl⟩ (Nat.le_of_ble_eq_true rfl) rfl rfl rfl ?_
          refine V_istore (pc := 72) (ls2 := [.ref 0, .int x1, .int x2, .int x3, .int x4, .int x5, .int u2, .int u11]) X (th_da dtX4_come 40 rfl) (Nat.le_of_ble_eq_true rfl) rfl rfl ?_
          refine V_aload_n (pc := 74) X (th_da dtX4_come 41 rfl) rfl ?_
          refine V_iload (pc := 75) X (th_da dtX4_come 42 rfl) rfl ?_
          refine V_iload_n (pc := 77) X (th_da dtX4_come 43 rfl) rfl ?_
          refine V_iload_n (pc := 78) X (th_da dtX4_come 44 rfl) rfl ?_
          refine V_iload_n (pc := 79) X (th_da dtX4_come 45 rfl) rfl ?_
          refine V_iload (pc := 80) X (th_da dtX4_come 46 rfl) rfl ?_
          refine V_iload (pc := 82) X (th_da dtX4_come 47 rfl) rfl ?_
          obtain ⟨u12, h12, e12, hf⟩ := th_bd_some hf
          refine V_callVv (pc := 84) (q := 0) (As := [.int u11, .int x1, .int x2, .int x3, .int x4, .int x5]) X (th_da dtX4_come 48 rfl) (mX4_lay l _ _ _ _ _ _ _ _ _ e12) wcd_X4_lay wml_X4_121 wim_X4_lay wse_X4_lay win_X4_lay hd_X4_lay ⟨Nat.le_of_ble_eq_true rfl, Nat.le_of_ble_eq_true rfl⟩ (Nat.le_of_ble_eq_true rfl) rfl rfl rfl ?_
          refine V_iload (pc := 87) X (th_da dtX4_come 49 rfl) rfl ?_
          exact V_iretF (pc := 89) X (th_da dtX4_come 50 rfl) hf
        · rw [if_neg c10] at hf
          refine V_aload_n (pc := 61) X (th_da dtX4_come 34 rfl) rfl ?_
          refine V_iload (pc := 62) X (th_da dtX4_come 35 rfl) rfl ?_
          obtain ⟨u13, h13, e13, hf⟩ := th_bd_some hf
          refine V_callVi (pc := 64) (q := 0) (As := [.int u2]) X (th_da dtX4_come 36 rfl) (mX4_refuse l _ _ _ _ e13) wcd_X4_refuse wml_X4_88 wim_X4_refuse wse_X4_refuse win_X4_refuse hd_X4_refuse ⟨Nat.le_of_ble_eq_true rfl, Nat.le_of_ble_eq_true rfl⟩ (Nat.le_of_ble_eq_true rfl) rfl rfl rfl ?_
          exact V_iretF (pc := 67) X (th_da dtX4_come 37 rfl) hf
      · rw [if_neg c9] at hf
        refine V_aload_n (pc := 49) X (th_da dtX4_come 27 rfl) rfl ?_
        refine V_iconst (pc := 50) (v := 2) X (th_da dtX4_come 28 rfl) (by decide) ?_
        obtain ⟨u14, h14, e14, hf⟩ := th_bd_some hf
        refine V_callVi (pc := 51) (q := 0) (As := [.int 2]) X (th_da dtX4_come 29 rfl) (mX4_refuse l _ _ _ _ e14) wcd_X4_refuse wml_X4_88 wim_X4_refuse wse_X4_refuse win_X4_refuse hd_X4_refuse ⟨Nat.le_of_ble_eq_true rfl, Nat.le_of_ble_eq_true rfl⟩ (Nat.le_of_ble_eq_true rfl) rfl rfl rfl ?_
        exact V_iretF (pc := 54) X (th_da dtX4_come 30 rfl) hf
end
def fX4_go (x1 : Int32) (h : th_H) : Option (Int32 × th_H) :=
  th_st (th_up h 0 0 0) fun h1 =>
  th_bd (fX4_isFlow x1 h1) fun u2 h2 =>
  if (u2 = 0 : Prop) then
    th_bd (fX4_refuse 1 h2) fun u4 h4 =>
    some (u4, h4)
  else
    th_bd (fX4_at x1 h2) fun u5 h5 =>
    th_wr h5 2 643 u5 0 fun h6 =>
    th_bd (fX4_flowMany h6) fun u7 h7 =>
    some (u7, h7)
def tbX4_go : List (Nat × Instr × Nat) := [(0, .aload_n 0, 1), (1, .iconst 0, 1), (2, .putfield 55, 3), (5, .aload_n 0, 1), (6, .iload_n 1, 1), (7, .invokevirtual 125, 3), (10, .ifCond .ne 9, 3), (13, .aload_n 0, 1), (14, .iconst 1, 1), (15, .invokevirtual 88, 3), (18, .ireturn, 1), (19, .aload_n 0, 1), (20, .getfield 15, 3), (23, .iload_n 1, 1), (24, .invokestatic 71, 3), (27, .iconst 0, 1), (28, .iastore, 1), (29, .aload_n 0, 1), (30, .invokevirtual 128, 3), (33, .ireturn, 1)]
theorem dtX4_go : th_dec cX4_go tbX4_go = true := by decide +kernel
section
variable {p0 : Program} {l : Launch} {e : Env} {s : State} {m : MethodId} {args : Array Value} {below : List Frame} {meth : Method} {c : Code} {D : va_G} {cI cZ : ClassId} {ad : Nat → Nat} {rr : Int32} {hh : th_H}
set_option maxHeartbeats 4000000 in
set_option maxRecDepth 100000 in
theorem mX4_go (l : Launch) (x1 : Int32) (h : th_H) (rr : Int32) (hh : th_H) (hf : fX4_go x1 h = some (rr, hh)) : th_MI l LM yX4_go cX4_go 2 (some .int) 2 46 [.ref 0, .int x1] h (some (.int rr)) hh := by
  refine th_MI_of (ls := [.ref 0, .int x1]) RX4 rfl rfl rfl (Nat.le_of_ble_eq_true rfl) ?_
  intro p0 e s m args below meth c D cI cZ ad X
  unfold fX4_go at hf
  refine V_aload_n (pc := 0) X (th_da dtX4_go 0 rfl) rfl ?_
  refine V_iconst (pc := 1) (v := 0) X (th_da dtX4_go 1 rfl) (by decide) ?_
  obtain ⟨h1, e1, hf⟩ := th_st_some hf
  refine V_putI (pc := 2) (j := 0) (ty := .int) X (th_da dtX4_go 2 rfl) wfl_X4_55 iX4 rfl rfl (Nat.le_of_ble_eq_true rfl) rfl tyX4 tyX4_ok nmX4 rfl (tyX4_ok 0 (Nat.le_of_ble_eq_true rfl)) rfl rfl e1 ?_
  refine V_aload_n (pc := 5) X (th_da dtX4_go 3 rfl) rfl ?_
  refine V_iload_n (pc := 6) X (th_da dtX4_go 4 rfl) rfl ?_
  obtain ⟨u2, h2, e2, hf⟩ := th_bd_some hf
  refine V_callVi (pc := 7) (q := 0) (As := [.int x1]) X (th_da dtX4_go 5 rfl) (mX4_isFlow l _ _ _ _ e2) wcd_X4_isFlow wml_X4_125 wim_X4_isFlow wse_X4_isFlow win_X4_isFlow hd_X4_isFlow ⟨Nat.le_of_ble_eq_true rfl, Nat.le_of_ble_eq_true rfl⟩ (Nat.le_of_ble_eq_true rfl) rfl rfl rfl ?_
  refine V_if_ne (pc := 10) (tgt := 19) X (th_da dtX4_go 6 rfl) (by decide) (fun c3 => ?_) (fun c3 => ?_)
  · rw [if_pos c3] at hf
    refine V_aload_n (pc := 13) X (th_da dtX4_go 7 rfl) rfl ?_
    refine V_iconst (pc := 14) (v := 1) X (th_da dtX4_go 8 rfl) (by decide) ?_
    obtain ⟨u4, h4, e4, hf⟩ := th_bd_some hf
    refine V_callVi (pc := 15) (q := 0) (As := [.int 1]) X (th_da dtX4_go 9 rfl) (mX4_refuse l _ _ _ _ e4) wcd_X4_refuse wml_X4_88 wim_X4_refuse wse_X4_refuse win_X4_refuse hd_X4_refuse ⟨Nat.le_of_ble_eq_true rfl, Nat.le_of_ble_eq_true rfl⟩ (Nat.le_of_ble_eq_true rfl) rfl rfl rfl ?_
    exact V_iretF (pc := 18) X (th_da dtX4_go 10 rfl) hf
  · rw [if_neg c3] at hf
    refine V_aload_n (pc := 19) X (th_da dtX4_go 11 rfl) rfl ?_
    refine V_getR (pc := 20) (j := 2) (t := 2) X (th_da dtX4_go 12 rfl) wfl_X4_15 iX4 rfl rfl (Nat.le_of_ble_eq_true rfl) rfl ?_
    refine V_iload_n (pc := 23) X (th_da dtX4_go 13 rfl) rfl ?_
    obtain ⟨u5, h5, e5, hf⟩ := th_bd_some hf
    refine V_callSi (pc := 24) (As := [.int x1]) X (th_da dtX4_go 14 rfl) (mX4_at l _ _ _ _ e5) wcd_X4_at wml_X4_71 wst_X4_at win_X4_at hd_X4_at ⟨Nat.le_of_ble_eq_true rfl, Nat.le_of_ble_eq_true rfl⟩ (Nat.le_of_ble_eq_true rfl) rfl ?_
    refine V_iconst (pc := 27) (v := 0) X (th_da dtX4_go 15 rfl) (by decide) ?_
    obtain ⟨h6, e6, g6, hf⟩ := th_wr_some hf
    refine V_iast (pc := 28) X (th_da dtX4_go 16 rfl) rfl g6 e6 ?_
    refine V_aload_n (pc := 29) X (th_da dtX4_go 17 rfl) rfl ?_
    obtain ⟨u7, h7, e7, hf⟩ := th_bd_some hf
    refine V_callVi (pc := 30) (q := 0) (As := []) X (th_da dtX4_go 18 rfl) (mX4_flowMany l _ _ _ e7) wcd_X4_flowMany wml_X4_128 wim_X4_flowMany wse_X4_flowMany win_X4_flowMany hd_X4_flowMany ⟨Nat.le_of_ble_eq_true rfl, Nat.le_of_ble_eq_true rfl⟩ (Nat.le_of_ble_eq_true rfl) rfl rfl rfl ?_
    exact V_iretF (pc := 33) X (th_da dtX4_go 19 rfl) hf
end
def fX4_change_c115 (y2 : Int32) (y3 : Int32) (y4 : Int32) (h : th_H) : Option (Int32 × th_H) :=
  th_rd h 2 643 ((y4 + 3) + y2) fun v1 =>
  if (v1 = y3 : Prop) then
    th_bd (fX4_refuse 2 h) fun u3 h3 =>
    some (u3, h3)
  else
    th_wr h 2 643 ((y4 + 3) + y2) y3 fun h4 =>
    th_bd (fX4_isBound h4) fun u5 h5 =>
    if (u5 = 0 : Prop) then
      th_wr h5 2 643 ((y4 + 3) + y2) v1 fun h7 =>
      th_bd (fX4_refuse 4 h7) fun u8 h8 =>
      some (u8, h8)
    else
      some (v1, h5)
def fX4_change_c91 (y2 : Int32) (y3 : Int32) (y4 : Int32) (h : th_H) : Option (Int32 × th_H) :=
  if (y2 = 2 : Prop) then
    th_rd h 2 643 (y4 + 4) fun v2 =>
    if (y3 < v2 : Prop) then
      th_bd (fX4_refuse 0 h) fun u4 h4 =>
      some (u4, h4)
    else
      fX4_change_c115 y2 y3 y4 h
  else
    fX4_change_c115 y2 y3 y4 h
def fX4_change_c41 (y1 : Int32) (y2 : Int32) (y3 : Int32) (z0 : Int64) (z1 : Int64) (z2 : Int64) (h : th_H) : Option (Int32 × th_H) :=
  th_bd (fX4_in z0 z1 z2 h) fun u1 h1 =>
  if (u1 = 0 : Prop) then
    th_bd (fX4_refuse 0 h1) fun u3 h3 =>
    some (u3, h3)
  else
    th_bd (fX4_isFlow y1 h1) fun u4 h4 =>
    if (u4 = 0 : Prop) then
      th_bd (fX4_refuse 1 h4) fun u6 h6 =>
      some (u6, h6)
    else
      th_bd (fX4_at y1 h4) fun u7 h7 =>
      if (y2 = 1 : Prop) then
        th_rd h7 2 643 (u7 + 5) fun v9 =>
        if (v9 < y3 : Prop) then
          th_bd (fX4_refuse 0 h7) fun u11 h11 =>
          some (u11, h11)
        else
          fX4_change_c91 y2 y3 u7 h7
      else
        fX4_change_c91 y2 y3 u7 h7
def fX4_change_c28 (y1 : Int32) (y2 : Int32) (y3 : Int32) (z0 : Int64) (z1 : Int64) (h : th_H) : Option (Int32 × th_H) :=
  if (y2 = 0 : Prop) then
    fX4_change_c41 y1 y2 y3 z0 z1 9 h
  else
    fX4_change_c41 y1 y2 y3 z0 z1 1000000 h
def fX4_change (x1 : Int32) (x2 : Int32) (x3 : Int32) (h : th_H) : Option (Int32 × th_H) :=
  th_st (th_up h 0 0 0) fun h1 =>
  th_bd (fX4_in (Int32.toInt64 x2) 0 2 h1) fun u2 h2 =>
  if (u2 = 0 : Prop) then
    th_bd (fX4_refuse 0 h2) fun u4 h4 =>
    some (u4, h4)
  else
    if (x2 = 0 : Prop) then
      fX4_change_c28 x1 x2 x3 (Int32.toInt64 x3) 1 h2
    else
      fX4_change_c28 x1 x2 x3 (Int32.toInt64 x3) 0 h2
def tbX4_change : List (Nat × Instr × Nat) := [(0, .aload_n 0, 1), (1, .iconst 0, 1), (2, .putfield 55, 3), (5, .iload_n 2, 1), (6, .i2l, 1), (7, .lconst 0, 1), (8, .ldc2_w 131, 3), (11, .invokestatic 63, 3), (14, .ifCond .eq 33, 3), (17, .iload_n 3, 1), (18, .i2l, 1), (19, .iload_n 2, 1), (20, .ifCond .ne 7, 3), (23, .lconst 1, 1), (24, .goto 4, 3), (27, .lconst 0, 1), (28, .iload_n 2, 1), (29, .ifCond .ne 9, 3), (32, .ldc2_w 67, 3), (35, .goto 6, 3), (38, .ldc2_w 86, 3), (41, .invokestatic 63, 3), (44, .ifCond .ne 9, 3), (47, .aload_n 0, 1), (48, .iconst 0, 1), (49, .invokevirtual 88, 3), (52, .ireturn, 1), (53, .aload_n 0, 1), (54, .iload_n 1, 1), (55, .invokevirtual 125, 3), (58, .ifCond .ne 9, 3), (61, .aload_n 0, 1), (62, .iconst 1, 1), (63, .invokevirtual 88, 3), (66, .ireturn, 1), (67, .iload_n 1, 1), (68, .invokestatic 71, 3), (71, .istore 4, 2), (73, .iload_n 2, 1), (74, .iconst 1, 1), (75, .if_icmp .ne 16, 3), (78, .iload_n 3, 1), (79, .aload_n 0, 1), (80, .getfield 15, 3), (83, .iload 4, 2), (85, .iconst 5, 1), (86, .iadd, 1), (87, .iaload, 1), (88, .if_icmp .gt 21, 3), (91, .iload_n 2, 1), (92, .iconst 2, 1), (93, .if_icmp .ne 22, 3), (96, .iload_n 3, 1), (97, .aload_n 0, 1), (98, .getfield 15, 3), (101, .iload 4, 2), (103, .iconst 4, 1), (104, .iadd, 1), (105, .iaload, 1), (106, .if_icmp .ge 9, 3), (109, .aload_n 0, 1), (110, .iconst 0, 1), (111, .invokevirtual 88, 3), (114, .ireturn, 1), (115, .aload_n 0, 1), (116, .getfield 15, 3), (119, .iload 4, 2), (121, .iconst 3, 1), (122, .iadd, 1), (123, .iload_n 2, 1), (124, .iadd, 1), (125, .iaload, 1), (126, .istore 5, 2), (128, .iload 5, 2), (130, .iload_n 3, 1), (131, .if_icmp .ne 9, 3), (134, .aload_n 0, 1), (135, .iconst 2, 1), (136, .invokevirtual 88, 3), (139, .ireturn, 1), (140, .aload_n 0, 1), (141, .getfield 15, 3), (144, .iload 4, 2), (146, .iconst 3, 1), (147, .iadd, 1), (148, .iload_n 2, 1), (149, .iadd, 1), (150, .iload_n 3, 1), (151, .iastore, 1), (152, .aload_n 0, 1), (153, .invokevirtual 133, 3), (156, .ifCond .ne 22, 3), (159, .aload_n 0, 1), (160, .getfield 15, 3), (163, .iload 4, 2), (165, .iconst 3, 1), (166, .iadd, 1), (167, .iload_n 2, 1), (168, .iadd, 1), (169, .iload 5, 2), (171, .iastore, 1), (172, .aload_n 0, 1), (173, .iconst 4, 1), (174, .invokevirtual 88, 3), (177, .ireturn, 1), (178, .iload 5, 2), (180, .ireturn, 1)]
theorem dtX4_change : th_dec cX4_change tbX4_change = true := by decide +kernel
section
variable {p0 : Program} {l : Launch} {e : Env} {s : State} {m : MethodId} {args : Array Value} {below : List Frame} {meth : Method} {c : Code} {D : va_G} {cI cZ : ClassId} {ad : Nat → Nat} {rr : Int32} {hh : th_H}
set_option maxHeartbeats 4000000 in
set_option maxRecDepth 100000 in
theorem tX4_change_c115 (X : th_X p0 s m args meth c D cI cZ ad LM 6 RX4 cX4_change (some .int)) (y2 : Int32) (y3 : Int32) (y4 : Int32) (h : th_H) (hf : fX4_change_c115 y2 y3 y4 h = some (rr, hh)) : th_V p0 l e { frames := 4, cells := 0, slots := 0, locals := 87 } s m args below meth c D cI cZ ad LM 6 (some (.int rr)) hh 115 [.ref 0, .null, .int y2, .int y3, .int y4, .null] [] h := by
  unfold fX4_change_c115 at hf
  refine V_aload_n (pc := 115) X (th_da dtX4_change 64 rfl) rfl ?_
  refine V_getR (pc := 116) (j := 2) (t := 2) X (th_da dtX4_change 65 rfl) wfl_X4_15 iX4 rfl rfl (Nat.le_of_ble_eq_true rfl) rfl ?_
  refine V_iload (pc := 119) X (th_da dtX4_change 66 rfl) rfl ?_
  refine V_iconst (pc := 121) (v := 3) X (th_da dtX4_change 67 rfl) (by decide) ?_
  refine V_iadd (pc := 122) X (th_da dtX4_change 68 rfl) ?_
  refine V_iload_n (pc := 123) X (th_da dtX4_change 69 rfl) rfl ?_
  refine V_iadd (pc := 124) X (th_da dtX4_change 70 rfl) ?_
  obtain ⟨v1, e1, g1, hf⟩ := th_rd_some hf
  refine V_iald (pc := 125) X (th_da dtX4_change 71 rfl) rfl g1 e1 ?_
  refine V_istore (pc := 126) (ls2 := [.ref 0, .null, .int y2, .int y3, .int y4, .int v1]) X (th_da dtX4_change 72 rfl) (Nat.le_of_ble_eq_true rfl) rfl rfl ?_
  refine V_iload (pc := 128) X (th_da dtX4_change 73 rfl) rfl ?_
  refine V_iload_n (pc := 130) X (th_da dtX4_change 74 rfl) rfl ?_
  refine V_icmp_ne (pc := 131) (tgt := 140) X (th_da dtX4_change 75 rfl) (by decide) (fun c2 => ?_) (fun c2 => ?_)
  · rw [if_pos c2] at hf
    refine V_aload_n (pc := 134) X (th_da dtX4_change 76 rfl) rfl ?_
    refine V_iconst (pc := 135) (v := 2) X (th_da dtX4_change 77 rfl) (by decide) ?_
    obtain ⟨u3, h3, e3, hf⟩ := th_bd_some hf
    refine V_callVi (pc := 136) (q := 0) (As := [.int 2]) X (th_da dtX4_change 78 rfl) (mX4_refuse l _ _ _ _ e3) wcd_X4_refuse wml_X4_88 wim_X4_refuse wse_X4_refuse win_X4_refuse hd_X4_refuse ⟨Nat.le_of_ble_eq_true rfl, Nat.le_of_ble_eq_true rfl⟩ (Nat.le_of_ble_eq_true rfl) rfl rfl rfl ?_
    exact V_iretF (pc := 139) X (th_da dtX4_change 79 rfl) hf
  · rw [if_neg c2] at hf
    refine V_aload_n (pc := 140) X (th_da dtX4_change 80 rfl) rfl ?_
    refine V_getR (pc := 141) (j := 2) (t := 2) X (th_da dtX4_change 81 rfl) wfl_X4_15 iX4 rfl rfl (Nat.le_of_ble_eq_true rfl) rfl ?_
    refine V_iload (pc := 144) X (th_da dtX4_change 82 rfl) rfl ?_
    refine V_iconst (pc := 146) (v := 3) X (th_da dtX4_change 83 rfl) (by decide) ?_
    refine V_iadd (pc := 147) X (th_da dtX4_change 84 rfl) ?_
    refine V_iload_n (pc := 148) X (th_da dtX4_change 85 rfl) rfl ?_
    refine V_iadd (pc := 149) X (th_da dtX4_change 86 rfl) ?_
    refine V_iload_n (pc := 150) X (th_da dtX4_change 87 rfl) rfl ?_
    obtain ⟨h4, e4, g4, hf⟩ := th_wr_some hf
    refine V_iast (pc := 151) X (th_da dtX4_change 88 rfl) rfl g4 e4 ?_
    refine V_aload_n (pc := 152) X (th_da dtX4_change 89 rfl) rfl ?_
    obtain ⟨u5, h5, e5, hf⟩ := th_bd_some hf
    refine V_callVi (pc := 153) (q := 0) (As := []) X (th_da dtX4_change 90 rfl) (mX4_isBound l _ _ _ e5) wcd_X4_isBound wml_X4_133 wim_X4_isBound wse_X4_isBound win_X4_isBound hd_X4_isBound ⟨Nat.le_of_ble_eq_true rfl, Nat.le_of_ble_eq_true rfl⟩ (Nat.le_of_ble_eq_true rfl) rfl rfl rfl ?_
    refine V_if_ne (pc := 156) (tgt := 178) X (th_da dtX4_change 91 rfl) (by decide) (fun c6 => ?_) (fun c6 => ?_)
    · rw [if_pos c6] at hf
      refine V_aload_n (pc := 159) X (th_da dtX4_change 92 rfl) rfl ?_
      refine V_getR (pc := 160) (j := 2) (t := 2) X (th_da dtX4_change 93 rfl) wfl_X4_15 iX4 rfl rfl (Nat.le_of_ble_eq_true rfl) rfl ?_
      refine V_iload (pc := 163) X (th_da dtX4_change 94 rfl) rfl ?_
      refine V_iconst (pc := 165) (v := 3) X (th_da dtX4_change 95 rfl) (by decide) ?_
      refine V_iadd (pc := 166) X (th_da dtX4_change 96 rfl) ?_
      refine V_iload_n (pc := 167) X (th_da dtX4_change 97 rfl) rfl ?_
      refine V_iadd (pc := 168) X (th_da dtX4_change 98 rfl) ?_
      refine V_iload (pc := 169) X (th_da dtX4_change 99 rfl) rfl ?_
      obtain ⟨h7, e7, g7, hf⟩ := th_wr_some hf
      refine V_iast (pc := 171) X (th_da dtX4_change 100 rfl) rfl g7 e7 ?_
      refine V_aload_n (pc := 172) X (th_da dtX4_change 101 rfl) rfl ?_
      refine V_iconst (pc := 173) (v := 4) X (th_da dtX4_change 102 rfl) (by decide) ?_
      obtain ⟨u8, h8, e8, hf⟩ := th_bd_some hf
      refine V_callVi (pc := 174) (q := 0) (As := [.int 4]) X (th_da dtX4_change 103 rfl) (mX4_refuse l _ _ _ _ e8) wcd_X4_refuse wml_X4_88 wim_X4_refuse wse_X4_refuse win_X4_refuse hd_X4_refuse ⟨Nat.le_of_ble_eq_true rfl, Nat.le_of_ble_eq_true rfl⟩ (Nat.le_of_ble_eq_true rfl) rfl rfl rfl ?_
      exact V_iretF (pc := 177) X (th_da dtX4_change 104 rfl) hf
    · rw [if_neg c6] at hf
      refine V_iload (pc := 178) X (th_da dtX4_change 105 rfl) rfl ?_
      exact V_iretF (pc := 180) X (th_da dtX4_change 106 rfl) hf
set_option maxHeartbeats 4000000 in
set_option maxRecDepth 100000 in
theorem tX4_change_c91 (X : th_X p0 s m args meth c D cI cZ ad LM 6 RX4 cX4_change (some .int)) (y2 : Int32) (y3 : Int32) (y4 : Int32) (h : th_H) (hf : fX4_change_c91 y2 y3 y4 h = some (rr, hh)) : th_V p0 l e { frames := 4, cells := 0, slots := 0, locals := 87 } s m args below meth c D cI cZ ad LM 6 (some (.int rr)) hh 91 [.ref 0, .null, .int y2, .int y3, .int y4, .null] [] h := by
  unfold fX4_change_c91 at hf
  refine V_iload_n (pc := 91) X (th_da dtX4_change 49 rfl) rfl ?_
  refine V_iconst (pc := 92) (v := 2) X (th_da dtX4_change 50 rfl) (by decide) ?_
  refine V_icmp_ne (pc := 93) (tgt := 115) X (th_da dtX4_change 51 rfl) (by decide) (fun c1 => ?_) (fun c1 => ?_)
  · rw [if_pos c1] at hf
    refine V_iload_n (pc := 96) X (th_da dtX4_change 52 rfl) rfl ?_
    refine V_aload_n (pc := 97) X (th_da dtX4_change 53 rfl) rfl ?_
    refine V_getR (pc := 98) (j := 2) (t := 2) X (th_da dtX4_change 54 rfl) wfl_X4_15 iX4 rfl rfl (Nat.le_of_ble_eq_true rfl) rfl ?_
    refine V_iload (pc := 101) X (th_da dtX4_change 55 rfl) rfl ?_
    refine V_iconst (pc := 103) (v := 4) X (th_da dtX4_change 56 rfl) (by decide) ?_
    refine V_iadd (pc := 104) X (th_da dtX4_change 57 rfl) ?_
    obtain ⟨v2, e2, g2, hf⟩ := th_rd_some hf
    refine V_iald (pc := 105) X (th_da dtX4_change 58 rfl) rfl g2 e2 ?_
    refine V_icmp_ge (pc := 106) (tgt := 115) X (th_da dtX4_change 59 rfl) (by decide) (fun c3 => ?_) (fun c3 => ?_)
    · rw [if_pos c3] at hf
      refine V_aload_n (pc := 109) X (th_da dtX4_change 60 rfl) rfl ?_
      refine V_iconst (pc := 110) (v := 0) X (th_da dtX4_change 61 rfl) (by decide) ?_
      obtain ⟨u4, h4, e4, hf⟩ := th_bd_some hf
      refine V_callVi (pc := 111) (q := 0) (As := [.int 0]) X (th_da dtX4_change 62 rfl) (mX4_refuse l _ _ _ _ e4) wcd_X4_refuse wml_X4_88 wim_X4_refuse wse_X4_refuse win_X4_refuse hd_X4_refuse ⟨Nat.le_of_ble_eq_true rfl, Nat.le_of_ble_eq_true rfl⟩ (Nat.le_of_ble_eq_true rfl) rfl rfl rfl ?_
      exact V_iretF (pc := 114) X (th_da dtX4_change 63 rfl) hf
    · rw [if_neg c3] at hf
      exact tX4_change_c115 X _ _ _ _ hf
  · rw [if_neg c1] at hf
    exact tX4_change_c115 X _ _ _ _ hf
set_option maxHeartbeats 4000000 in
set_option maxRecDepth 100000 in
theorem tX4_change_c41 (X : th_X p0 s m args meth c D cI cZ ad LM 6 RX4 cX4_change (some .int)) (y1 : Int32) (y2 : Int32) (y3 : Int32) (z0 : Int64) (z1 : Int64) (z2 : Int64) (h : th_H) (hf : fX4_change_c41 y1 y2 y3 z0 z1 z2 h = some (rr, hh)) : th_V p0 l e { frames := 4, cells := 0, slots := 0, locals := 87 } s m args below meth c D cI cZ ad LM 6 (some (.int rr)) hh 41 [.ref 0, .int y1, .int y2, .int y3, .null, .null] [.long z2, .long z1, .long z0] h := by
  unfold fX4_change_c41 at hf
  obtain ⟨u1, h1, e1, hf⟩ := th_bd_some hf
  refine V_callSi (pc := 41) (As := [.long z0, .long z1, .long z2]) X (th_da dtX4_change 21 rfl) (mX4_in l _ _ _ _ _ _ e1) wcd_X4_in wml_X4_63 wst_X4_in win_X4_in hd_X4_in ⟨Nat.le_of_ble_eq_true rfl, Nat.le_of_ble_eq_true rfl⟩ (Nat.le_of_ble_eq_true rfl) rfl ?_
  refine V_if_ne (pc := 44) (tgt := 53) X (th_da dtX4_change 22 rfl) (by decide) (fun c2 => ?_) (fun c2 => ?_)
  · rw [if_pos c2] at hf
    refine V_aload_n (pc := 47) X (th_da dtX4_change 23 rfl) rfl ?_
    refine V_iconst (pc := 48) (v := 0) X (th_da dtX4_change 24 rfl) (by decide) ?_
    obtain ⟨u3, h3, e3, hf⟩ := th_bd_some hf
    refine V_callVi (pc := 49) (q := 0) (As := [.int 0]) X (th_da dtX4_change 25 rfl) (mX4_refuse l _ _ _ _ e3) wcd_X4_refuse wml_X4_88 wim_X4_refuse wse_X4_refuse win_X4_refuse hd_X4_refuse ⟨Nat.le_of_ble_eq_true rfl, Nat.le_of_ble_eq_true rfl⟩ (Nat.le_of_ble_eq_true rfl) rfl rfl rfl ?_
    exact V_iretF (pc := 52) X (th_da dtX4_change 26 rfl) hf
  · rw [if_neg c2] at hf
    refine V_aload_n (pc := 53) X (th_da dtX4_change 27 rfl) rfl ?_
    refine V_iload_n (pc := 54) X (th_da dtX4_change 28 rfl) rfl ?_
    obtain ⟨u4, h4, e4, hf⟩ := th_bd_some hf
    refine V_callVi (pc := 55) (q := 0) (As := [.int y1]) X (th_da dtX4_change 29 rfl) (mX4_isFlow l _ _ _ _ e4) wcd_X4_isFlow wml_X4_125 wim_X4_isFlow wse_X4_isFlow win_X4_isFlow hd_X4_isFlow ⟨Nat.le_of_ble_eq_true rfl, Nat.le_of_ble_eq_true rfl⟩ (Nat.le_of_ble_eq_true rfl) rfl rfl rfl ?_
    refine V_if_ne (pc := 58) (tgt := 67) X (th_da dtX4_change 30 rfl) (by decide) (fun c5 => ?_) (fun c5 => ?_)
    · rw [if_pos c5] at hf
      refine V_aload_n (pc := 61) X (th_da dtX4_change 31 rfl) rfl ?_
      refine V_iconst (pc := 62) (v := 1) X (th_da dtX4_change 32 rfl) (by decide) ?_
      obtain ⟨u6, h6, e6, hf⟩ := th_bd_some hf
      refine V_callVi (pc := 63) (q := 0) (As := [.int 1]) X (th_da dtX4_change 33 rfl) (mX4_refuse l _ _ _ _ e6) wcd_X4_refuse wml_X4_88 wim_X4_refuse wse_X4_refuse win_X4_refuse hd_X4_refuse ⟨Nat.le_of_ble_eq_true rfl, Nat.le_of_ble_eq_true rfl⟩ (Nat.le_of_ble_eq_true rfl) rfl rfl rfl ?_
      exact V_iretF (pc := 66) X (th_da dtX4_change 34 rfl) hf
    · rw [if_neg c5] at hf
      refine V_iload_n (pc := 67) X (th_da dtX4_change 35 rfl) rfl ?_
      obtain ⟨u7, h7, e7, hf⟩ := th_bd_some hf
      refine V_callSi (pc := 68) (As := [.int y1]) X (th_da dtX4_change 36 rfl) (mX4_at l _ _ _ _ e7) wcd_X4_at wml_X4_71 wst_X4_at win_X4_at hd_X4_at ⟨Nat.le_of_ble_eq_true rfl, Nat.le_of_ble_eq_true rfl⟩ (Nat.le_of_ble_eq_true rfl) rfl ?_
      refine V_istore (pc := 71) (ls2 := [.ref 0, .int y1, .int y2, .int y3, .int u7, .null]) X (th_da dtX4_change 37 rfl) (Nat.le_of_ble_eq_true rfl) rfl rfl ?_
      refine V_iload_n (pc := 73) X (th_da dtX4_change 38 rfl) rfl ?_
      refine V_iconst (pc := 74) (v := 1) X (th_da dtX4_change 39 rfl) (by decide) ?_
      refine V_icmp_ne (pc := 75) (tgt := 91) X (th_da dtX4_change 40 rfl) (by decide) (fun c8 => ?_) (fun c8 => ?_)
      · rw [if_pos c8] at hf
        refine V_iload_n (pc := 78) X (th_da dtX4_change 41 rfl) rfl ?_
        refine V_aload_n (pc := 79) X (th_da dtX4_change 42 rfl) rfl ?_
        refine V_getR (pc := 80) (j := 2) (t := 2) X (th_da dtX4_change 43 rfl) wfl_X4_15 iX4 rfl rfl (Nat.le_of_ble_eq_true rfl) rfl ?_
        refine V_iload (pc := 83) X (th_da dtX4_change 44 rfl) rfl ?_
        refine V_iconst (pc := 85) (v := 5) X (th_da dtX4_change 45 rfl) (by decide) ?_
        refine V_iadd (pc := 86) X (th_da dtX4_change 46 rfl) ?_
        obtain ⟨v9, e9, g9, hf⟩ := th_rd_some hf
        refine V_iald (pc := 87) X (th_da dtX4_change 47 rfl) rfl g9 e9 ?_
        refine V_icmp_gt (pc := 88) (tgt := 109) X (th_da dtX4_change 48 rfl) (by decide) (fun c10 => ?_) (fun c10 => ?_)
        · rw [if_pos c10] at hf
          refine V_aload_n (pc := 109) X (th_da dtX4_change 60 rfl) rfl ?_
          refine V_iconst (pc := 110) (v := 0) X (th_da dtX4_change 61 rfl) (by decide) ?_
          obtain ⟨u11, h11, e11, hf⟩ := th_bd_some hf
          refine V_callVi (pc := 111) (q := 0) (As := [.int 0]) X (th_da dtX4_change 62 rfl) (mX4_refuse l _ _ _ _ e11) wcd_X4_refuse wml_X4_88 wim_X4_refuse wse_X4_refuse win_X4_refuse hd_X4_refuse ⟨Nat.le_of_ble_eq_true rfl, Nat.le_of_ble_eq_true rfl⟩ (Nat.le_of_ble_eq_true rfl) rfl rfl rfl ?_
          exact V_iretF (pc := 114) X (th_da dtX4_change 63 rfl) hf
        · rw [if_neg c10] at hf
          refine V_mask [true, false, true, true, true, false] (ls2 := [.ref 0, .null, .int y2, .int y3, .int u7, .null]) rfl ?_
          exact tX4_change_c91 X _ _ _ _ hf
      · rw [if_neg c8] at hf
        refine V_mask [true, false, true, true, true, false] (ls2 := [.ref 0, .null, .int y2, .int y3, .int u7, .null]) rfl ?_
        exact tX4_change_c91 X _ _ _ _ hf
set_option maxHeartbeats 4000000 in
set_option maxRecDepth 100000 in
theorem tX4_change_c28 (X : th_X p0 s m args meth c D cI cZ ad LM 6 RX4 cX4_change (some .int)) (y1 : Int32) (y2 : Int32) (y3 : Int32) (z0 : Int64) (z1 : Int64) (h : th_H) (hf : fX4_change_c28 y1 y2 y3 z0 z1 h = some (rr, hh)) : th_V p0 l e { frames := 4, cells := 0, slots := 0, locals := 87 } s m args below meth c D cI cZ ad LM 6 (some (.int rr)) hh 28 [.ref 0, .int y1, .int y2, .int y3, .null, .null] [.long z1, .long z0] h := by
  unfold fX4_change_c28 at hf
  refine V_iload_n (pc := 28) X (th_da dtX4_change 16 rfl) rfl ?_
  refine V_if_ne (pc := 29) (tgt := 38) X (th_da dtX4_change 17 rfl) (by decide) (fun c1 => ?_) (fun c1 => ?_)
  · rw [if_pos c1] at hf
    refine V_ldc2 (pc := 32) (v := 9) X (th_da dtX4_change 18 rfl) wcl_X4_67 ?_
    refine V_goto (pc := 35) (tgt := 41) X (th_da dtX4_change 19 rfl) (by decide) ?_
    exact tX4_change_c41 X _ _ _ _ _ _ _ hf
  · rw [if_neg c1] at hf
    refine V_ldc2 (pc := 38) (v := 1000000) X (th_da dtX4_change 20 rfl) wcl_X4_86 ?_
    exact tX4_change_c41 X _ _ _ _ _ _ _ hf
set_option maxHeartbeats 4000000 in
set_option maxRecDepth 100000 in
theorem mX4_change (l : Launch) (x1 : Int32) (x2 : Int32) (x3 : Int32) (h : th_H) (rr : Int32) (hh : th_H) (hf : fX4_change x1 x2 x3 h = some (rr, hh)) : th_MI l LM yX4_change cX4_change 6 (some .int) 4 87 [.ref 0, .int x1, .int x2, .int x3] h (some (.int rr)) hh := by
  refine th_MI_of (ls := [.ref 0, .int x1, .int x2, .int x3, .null, .null]) RX4 rfl rfl rfl (Nat.le_of_ble_eq_true rfl) ?_
  intro p0 e s m args below meth c D cI cZ ad X
  unfold fX4_change at hf
  refine V_aload_n (pc := 0) X (th_da dtX4_change 0 rfl) rfl ?_
  refine V_iconst (pc := 1) (v := 0) X (th_da dtX4_change 1 rfl) (by decide) ?_
  obtain ⟨h1, e1, hf⟩ := th_st_some hf
  refine V_putI (pc := 2) (j := 0) (ty := .int) X (th_da dtX4_change 2 rfl) wfl_X4_55 iX4 rfl rfl (Nat.le_of_ble_eq_true rfl) rfl tyX4 tyX4_ok nmX4 rfl (tyX4_ok 0 (Nat.le_of_ble_eq_true rfl)) rfl rfl e1 ?_
  refine V_iload_n (pc := 5) X (th_da dtX4_change 3 rfl) rfl ?_
  refine V_i2l (pc := 6) X (th_da dtX4_change 4 rfl) ?_
  refine V_lconst (pc := 7) (v := 0) X (th_da dtX4_change 5 rfl) (by decide) ?_
  refine V_ldc2 (pc := 8) (v := 2) X (th_da dtX4_change 6 rfl) wcl_X4_131 ?_
  obtain ⟨u2, h2, e2, hf⟩ := th_bd_some hf
  refine V_callSi (pc := 11) (As := [.long (Int32.toInt64 x2), .long 0, .long 2]) X (th_da dtX4_change 7 rfl) (mX4_in l _ _ _ _ _ _ e2) wcd_X4_in wml_X4_63 wst_X4_in win_X4_in hd_X4_in ⟨Nat.le_of_ble_eq_true rfl, Nat.le_of_ble_eq_true rfl⟩ (Nat.le_of_ble_eq_true rfl) rfl ?_
  refine V_if_eq (pc := 14) (tgt := 47) X (th_da dtX4_change 8 rfl) (by decide) (fun c3 => ?_) (fun c3 => ?_)
  · rw [if_pos c3] at hf
    refine V_aload_n (pc := 47) X (th_da dtX4_change 23 rfl) rfl ?_
    refine V_iconst (pc := 48) (v := 0) X (th_da dtX4_change 24 rfl) (by decide) ?_
    obtain ⟨u4, h4, e4, hf⟩ := th_bd_some hf
    refine V_callVi (pc := 49) (q := 0) (As := [.int 0]) X (th_da dtX4_change 25 rfl) (mX4_refuse l _ _ _ _ e4) wcd_X4_refuse wml_X4_88 wim_X4_refuse wse_X4_refuse win_X4_refuse hd_X4_refuse ⟨Nat.le_of_ble_eq_true rfl, Nat.le_of_ble_eq_true rfl⟩ (Nat.le_of_ble_eq_true rfl) rfl rfl rfl ?_
    exact V_iretF (pc := 52) X (th_da dtX4_change 26 rfl) hf
  · rw [if_neg c3] at hf
    refine V_iload_n (pc := 17) X (th_da dtX4_change 9 rfl) rfl ?_
    refine V_i2l (pc := 18) X (th_da dtX4_change 10 rfl) ?_
    refine V_iload_n (pc := 19) X (th_da dtX4_change 11 rfl) rfl ?_
    refine V_if_ne (pc := 20) (tgt := 27) X (th_da dtX4_change 12 rfl) (by decide) (fun c5 => ?_) (fun c5 => ?_)
    · rw [if_pos c5] at hf
      refine V_lconst (pc := 23) (v := 1) X (th_da dtX4_change 13 rfl) (by decide) ?_
      refine V_goto (pc := 24) (tgt := 28) X (th_da dtX4_change 14 rfl) (by decide) ?_
      exact tX4_change_c28 X _ _ _ _ _ _ hf
    · rw [if_neg c5] at hf
      refine V_lconst (pc := 27) (v := 0) X (th_da dtX4_change 15 rfl) (by decide) ?_
      exact tX4_change_c28 X _ _ _ _ _ _ hf
end
def fX4_heldMany_c4 : Nat → Int32 → Int32 → th_H → Option (Int32 × th_H)
  | 0, _, _, _ => none
  | n + 1, y1, y2, h =>
    if (y2 < 20 : Prop) then
      th_bd (fX4_at y2 h) fun u2 h2 =>
      th_rd h2 2 643 u2 fun v3 =>
      th_bd (fX4_at y2 h2) fun u4 h4 =>
      th_rd h4 2 643 (u4 + 6) fun v5 =>
      fX4_heldMany_c4 n (y1 + (v3 * v5)) (y2 + 1) h4
    else
      some (y1, h)
def fX4_heldMany (h : th_H) : Option (Int32 × th_H) :=
  fX4_heldMany_c4 1000 0 0 h
def tbX4_heldMany : List (Nat × Instr × Nat) := [(0, .iconst 0, 1), (1, .istore_n 1, 1), (2, .iconst 0, 1), (3, .istore_n 2, 1), (4, .iload_n 2, 1), (5, .bipush 20, 2), (7, .if_icmp .ge 34, 3), (10, .iload_n 1, 1), (11, .aload_n 0, 1), (12, .getfield 15, 3), (15, .iload_n 2, 1), (16, .invokestatic 71, 3), (19, .iaload, 1), (20, .aload_n 0, 1), (21, .getfield 15, 3), (24, .iload_n 2, 1), (25, .invokestatic 71, 3), (28, .bipush 6, 2), (30, .iadd, 1), (31, .iaload, 1), (32, .imul, 1), (33, .iadd, 1), (34, .istore_n 1, 1), (35, .iinc 2 1, 3), (38, .goto (-34), 3), (41, .iload_n 1, 1), (42, .ireturn, 1)]
theorem dtX4_heldMany : th_dec cX4_heldMany tbX4_heldMany = true := by decide +kernel
section
variable {p0 : Program} {l : Launch} {e : Env} {s : State} {m : MethodId} {args : Array Value} {below : List Frame} {meth : Method} {c : Code} {D : va_G} {cI cZ : ClassId} {ad : Nat → Nat} {rr : Int32} {hh : th_H}
set_option maxHeartbeats 4000000 in
set_option maxRecDepth 100000 in
theorem tX4_heldMany_c4 (X : th_X p0 s m args meth c D cI cZ ad LM 3 RX4 cX4_heldMany (some .int)) : ∀ (n : Nat) (y1 : Int32) (y2 : Int32) (h : th_H), fX4_heldMany_c4 n y1 y2 h = some (rr, hh) → th_V p0 l e { frames := 1, cells := 0, slots := 0, locals := 20 } s m args below meth c D cI cZ ad LM 3 (some (.int rr)) hh 4 [.ref 0, .int y1, .int y2] [] h := by
  intro n
  induction n with
  | zero => intro y1 y2 h hf; cases hf
  | succ n ih =>
    intro y1 y2 h hf
    rw [fX4_heldMany_c4] at hf
    refine V_iload_n (pc := 4) X (th_da dtX4_heldMany 4 rfl) rfl ?_
    refine V_bipush (pc := 5) (v := 20) X (th_da dtX4_heldMany 5 rfl) (by decide) ?_
    refine V_icmp_ge (pc := 7) (tgt := 41) X (th_da dtX4_heldMany 6 rfl) (by decide) (fun c1 => ?_) (fun c1 => ?_)
    · rw [if_pos c1] at hf
      refine V_iload_n (pc := 10) X (th_da dtX4_heldMany 7 rfl) rfl ?_
      refine V_aload_n (pc := 11) X (th_da dtX4_heldMany 8 rfl) rfl ?_
      refine V_getR (pc := 12) (j := 2) (t := 2) X (th_da dtX4_heldMany 9 rfl) wfl_X4_15 iX4 rfl rfl (Nat.le_of_ble_eq_true rfl) rfl ?_
      refine V_iload_n (pc := 15) X (th_da dtX4_heldMany 10 rfl) rfl ?_
      obtain ⟨u2, h2, e2, hf⟩ := th_bd_some hf
      refine V_callSi (pc := 16) (As := [.int y2]) X (th_da dtX4_heldMany 11 rfl) (mX4_at l _ _ _ _ e2) wcd_X4_at wml_X4_71 wst_X4_at win_X4_at hd_X4_at ⟨Nat.le_of_ble_eq_true rfl, Nat.le_of_ble_eq_true rfl⟩ (Nat.le_of_ble_eq_true rfl) rfl ?_
      obtain ⟨v3, e3, g3, hf⟩ := th_rd_some hf
      refine V_iald (pc := 19) X (th_da dtX4_heldMany 12 rfl) rfl g3 e3 ?_
      refine V_aload_n (pc := 20) X (th_da dtX4_heldMany 13 rfl) rfl ?_
      refine V_getR (pc := 21) (j := 2) (t := 2) X (th_da dtX4_heldMany 14 rfl) wfl_X4_15 iX4 rfl rfl (Nat.le_of_ble_eq_true rfl) rfl ?_
      refine V_iload_n (pc := 24) X (th_da dtX4_heldMany 15 rfl) rfl ?_
      obtain ⟨u4, h4, e4, hf⟩ := th_bd_some hf
      refine V_callSi (pc := 25) (As := [.int y2]) X (th_da dtX4_heldMany 16 rfl) (mX4_at l _ _ _ _ e4) wcd_X4_at wml_X4_71 wst_X4_at win_X4_at hd_X4_at ⟨Nat.le_of_ble_eq_true rfl, Nat.le_of_ble_eq_true rfl⟩ (Nat.le_of_ble_eq_true rfl) rfl ?_
      refine V_bipush (pc := 28) (v := 6) X (th_da dtX4_heldMany 17 rfl) (by decide) ?_
      refine V_iadd (pc := 30) X (th_da dtX4_heldMany 18 rfl) ?_
      obtain ⟨v5, e5, g5, hf⟩ := th_rd_some hf
      refine V_iald (pc := 31) X (th_da dtX4_heldMany 19 rfl) rfl g5 e5 ?_
      refine V_imul (pc := 32) X (th_da dtX4_heldMany 20 rfl) ?_
      refine V_iadd (pc := 33) X (th_da dtX4_heldMany 21 rfl) ?_
      refine V_istore_n (pc := 34) (ls2 := [.ref 0, .int (y1 + (v3 * v5)), .int y2]) X (th_da dtX4_heldMany 22 rfl) (Nat.le_of_ble_eq_true rfl) rfl rfl ?_
      refine V_iinc (pc := 35) (v := y2 + 1) (ls2 := [.ref 0, .int (y1 + (v3 * v5)), .int (y2 + 1)]) X (th_da dtX4_heldMany 23 rfl) rfl rfl (Nat.le_of_ble_eq_true rfl) rfl rfl ?_
      refine V_goto (pc := 38) (tgt := 4) X (th_da dtX4_heldMany 24 rfl) (by decide) ?_
      exact ih _ _ _ hf
    · rw [if_neg c1] at hf
      refine V_iload_n (pc := 41) X (th_da dtX4_heldMany 25 rfl) rfl ?_
      exact V_iretF (pc := 42) X (th_da dtX4_heldMany 26 rfl) hf
set_option maxHeartbeats 4000000 in
set_option maxRecDepth 100000 in
theorem mX4_heldMany (l : Launch) (h : th_H) (rr : Int32) (hh : th_H) (hf : fX4_heldMany h = some (rr, hh)) : th_MI l LM yX4_heldMany cX4_heldMany 3 (some .int) 1 20 [.ref 0] h (some (.int rr)) hh := by
  refine th_MI_of (ls := [.ref 0, .null, .null]) RX4 rfl rfl rfl (Nat.le_of_ble_eq_true rfl) ?_
  intro p0 e s m args below meth c D cI cZ ad X
  unfold fX4_heldMany at hf
  refine V_iconst (pc := 0) (v := 0) X (th_da dtX4_heldMany 0 rfl) (by decide) ?_
  refine V_istore_n (pc := 1) (ls2 := [.ref 0, .int 0, .null]) X (th_da dtX4_heldMany 1 rfl) (Nat.le_of_ble_eq_true rfl) rfl rfl ?_
  refine V_iconst (pc := 2) (v := 0) X (th_da dtX4_heldMany 2 rfl) (by decide) ?_
  refine V_istore_n (pc := 3) (ls2 := [.ref 0, .int 0, .int 0]) X (th_da dtX4_heldMany 3 rfl) (Nat.le_of_ble_eq_true rfl) rfl rfl ?_
  exact tX4_heldMany_c4 X _ _ _ _ hf
end
def fX4_hold_c28 (y1 : Int32) (z0 : Int32) (h : th_H) : Option (Int32 × th_H) :=
  th_bd (fX4_at y1 h) fun u1 h1 =>
  th_rd h1 2 643 (u1 + 6) fun v2 =>
  if (v2 = z0 : Prop) then
    th_bd (fX4_refuse 2 h1) fun u4 h4 =>
    some (u4, h4)
  else
    th_bd (fX4_at y1 h1) fun u5 h5 =>
    th_wr h5 2 643 (u5 + 6) z0 fun h6 =>
    th_bd (fX4_heldMany h6) fun u7 h7 =>
    some (u7, h7)
def fX4_hold (x1 : Int32) (x2 : Int32) (h : th_H) : Option (Int32 × th_H) :=
  th_st (th_up h 0 0 0) fun h1 =>
  th_bd (fX4_isFlow x1 h1) fun u2 h2 =>
  if (u2 = 0 : Prop) then
    th_bd (fX4_refuse 1 h2) fun u4 h4 =>
    some (u4, h4)
  else
    if (x2 = 0 : Prop) then
      fX4_hold_c28 x1 0 h2
    else
      fX4_hold_c28 x1 1 h2
def tbX4_hold : List (Nat × Instr × Nat) := [(0, .aload_n 0, 1), (1, .iconst 0, 1), (2, .putfield 55, 3), (5, .aload_n 0, 1), (6, .iload_n 1, 1), (7, .invokevirtual 125, 3), (10, .ifCond .ne 9, 3), (13, .aload_n 0, 1), (14, .iconst 1, 1), (15, .invokevirtual 88, 3), (18, .ireturn, 1), (19, .iload_n 2, 1), (20, .ifCond .eq 7, 3), (23, .iconst 1, 1), (24, .goto 4, 3), (27, .iconst 0, 1), (28, .istore_n 3, 1), (29, .aload_n 0, 1), (30, .getfield 15, 3), (33, .iload_n 1, 1), (34, .invokestatic 71, 3), (37, .bipush 6, 2), (39, .iadd, 1), (40, .iaload, 1), (41, .iload_n 3, 1), (42, .if_icmp .ne 9, 3), (45, .aload_n 0, 1), (46, .iconst 2, 1), (47, .invokevirtual 88, 3), (50, .ireturn, 1), (51, .aload_n 0, 1), (52, .getfield 15, 3), (55, .iload_n 1, 1), (56, .invokestatic 71, 3), (59, .bipush 6, 2), (61, .iadd, 1), (62, .iload_n 3, 1), (63, .iastore, 1), (64, .aload_n 0, 1), (65, .invokevirtual 137, 3), (68, .ireturn, 1)]
theorem dtX4_hold : th_dec cX4_hold tbX4_hold = true := by decide +kernel
section
variable {p0 : Program} {l : Launch} {e : Env} {s : State} {m : MethodId} {args : Array Value} {below : List Frame} {meth : Method} {c : Code} {D : va_G} {cI cZ : ClassId} {ad : Nat → Nat} {rr : Int32} {hh : th_H}
set_option maxHeartbeats 4000000 in
set_option maxRecDepth 100000 in
theorem tX4_hold_c28 (X : th_X p0 s m args meth c D cI cZ ad LM 4 RX4 cX4_hold (some .int)) (y1 : Int32) (z0 : Int32) (h : th_H) (hf : fX4_hold_c28 y1 z0 h = some (rr, hh)) : th_V p0 l e { frames := 2, cells := 0, slots := 0, locals := 46 } s m args below meth c D cI cZ ad LM 4 (some (.int rr)) hh 28 [.ref 0, .int y1, .null, .null] [.int z0] h := by
  unfold fX4_hold_c28 at hf
  refine V_istore_n (pc := 28) (ls2 := [.ref 0, .int y1, .null, .int z0]) X (th_da dtX4_hold 16 rfl) (Nat.le_of_ble_eq_true rfl) rfl rfl ?_
  refine V_aload_n (pc := 29) X (th_da dtX4_hold 17 rfl) rfl ?_
  refine V_getR (pc := 30) (j := 2) (t := 2) X (th_da dtX4_hold 18 rfl) wfl_X4_15 iX4 rfl rfl (Nat.le_of_ble_eq_true rfl) rfl ?_
  refine V_iload_n (pc := 33) X (th_da dtX4_hold 19 rfl) rfl ?_
  obtain ⟨u1, h1, e1, hf⟩ := th_bd_some hf
  refine V_callSi (pc := 34) (As := [.int y1]) X (th_da dtX4_hold 20 rfl) (mX4_at l _ _ _ _ e1) wcd_X4_at wml_X4_71 wst_X4_at win_X4_at hd_X4_at ⟨Nat.le_of_ble_eq_true rfl, Nat.le_of_ble_eq_true rfl⟩ (Nat.le_of_ble_eq_true rfl) rfl ?_
  refine V_bipush (pc := 37) (v := 6) X (th_da dtX4_hold 21 rfl) (by decide) ?_
  refine V_iadd (pc := 39) X (th_da dtX4_hold 22 rfl) ?_
  obtain ⟨v2, e2, g2, hf⟩ := th_rd_some hf
  refine V_iald (pc := 40) X (th_da dtX4_hold 23 rfl) rfl g2 e2 ?_
  refine V_iload_n (pc := 41) X (th_da dtX4_hold 24 rfl) rfl ?_
  refine V_icmp_ne (pc := 42) (tgt := 51) X (th_da dtX4_hold 25 rfl) (by decide) (fun c3 => ?_) (fun c3 => ?_)
  · rw [if_pos c3] at hf
    refine V_aload_n (pc := 45) X (th_da dtX4_hold 26 rfl) rfl ?_
    refine V_iconst (pc := 46) (v := 2) X (th_da dtX4_hold 27 rfl) (by decide) ?_
    obtain ⟨u4, h4, e4, hf⟩ := th_bd_some hf
    refine V_callVi (pc := 47) (q := 0) (As := [.int 2]) X (th_da dtX4_hold 28 rfl) (mX4_refuse l _ _ _ _ e4) wcd_X4_refuse wml_X4_88 wim_X4_refuse wse_X4_refuse win_X4_refuse hd_X4_refuse ⟨Nat.le_of_ble_eq_true rfl, Nat.le_of_ble_eq_true rfl⟩ (Nat.le_of_ble_eq_true rfl) rfl rfl rfl ?_
    exact V_iretF (pc := 50) X (th_da dtX4_hold 29 rfl) hf
  · rw [if_neg c3] at hf
    refine V_aload_n (pc := 51) X (th_da dtX4_hold 30 rfl) rfl ?_
    refine V_getR (pc := 52) (j := 2) (t := 2) X (th_da dtX4_hold 31 rfl) wfl_X4_15 iX4 rfl rfl (Nat.le_of_ble_eq_true rfl) rfl ?_
    refine V_iload_n (pc := 55) X (th_da dtX4_hold 32 rfl) rfl ?_
    obtain ⟨u5, h5, e5, hf⟩ := th_bd_some hf
    refine V_callSi (pc := 56) (As := [.int y1]) X (th_da dtX4_hold 33 rfl) (mX4_at l _ _ _ _ e5) wcd_X4_at wml_X4_71 wst_X4_at win_X4_at hd_X4_at ⟨Nat.le_of_ble_eq_true rfl, Nat.le_of_ble_eq_true rfl⟩ (Nat.le_of_ble_eq_true rfl) rfl ?_
    refine V_bipush (pc := 59) (v := 6) X (th_da dtX4_hold 34 rfl) (by decide) ?_
    refine V_iadd (pc := 61) X (th_da dtX4_hold 35 rfl) ?_
    refine V_iload_n (pc := 62) X (th_da dtX4_hold 36 rfl) rfl ?_
    obtain ⟨h6, e6, g6, hf⟩ := th_wr_some hf
    refine V_iast (pc := 63) X (th_da dtX4_hold 37 rfl) rfl g6 e6 ?_
    refine V_aload_n (pc := 64) X (th_da dtX4_hold 38 rfl) rfl ?_
    obtain ⟨u7, h7, e7, hf⟩ := th_bd_some hf
    refine V_callVi (pc := 65) (q := 0) (As := []) X (th_da dtX4_hold 39 rfl) (mX4_heldMany l _ _ _ e7) wcd_X4_heldMany wml_X4_137 wim_X4_heldMany wse_X4_heldMany win_X4_heldMany hd_X4_heldMany ⟨Nat.le_of_ble_eq_true rfl, Nat.le_of_ble_eq_true rfl⟩ (Nat.le_of_ble_eq_true rfl) rfl rfl rfl ?_
    exact V_iretF (pc := 68) X (th_da dtX4_hold 40 rfl) hf
set_option maxHeartbeats 4000000 in
set_option maxRecDepth 100000 in
theorem mX4_hold (l : Launch) (x1 : Int32) (x2 : Int32) (h : th_H) (rr : Int32) (hh : th_H) (hf : fX4_hold x1 x2 h = some (rr, hh)) : th_MI l LM yX4_hold cX4_hold 4 (some .int) 2 46 [.ref 0, .int x1, .int x2] h (some (.int rr)) hh := by
  refine th_MI_of (ls := [.ref 0, .int x1, .int x2, .null]) RX4 rfl rfl rfl (Nat.le_of_ble_eq_true rfl) ?_
  intro p0 e s m args below meth c D cI cZ ad X
  unfold fX4_hold at hf
  refine V_aload_n (pc := 0) X (th_da dtX4_hold 0 rfl) rfl ?_
  refine V_iconst (pc := 1) (v := 0) X (th_da dtX4_hold 1 rfl) (by decide) ?_
  obtain ⟨h1, e1, hf⟩ := th_st_some hf
  refine V_putI (pc := 2) (j := 0) (ty := .int) X (th_da dtX4_hold 2 rfl) wfl_X4_55 iX4 rfl rfl (Nat.le_of_ble_eq_true rfl) rfl tyX4 tyX4_ok nmX4 rfl (tyX4_ok 0 (Nat.le_of_ble_eq_true rfl)) rfl rfl e1 ?_
  refine V_aload_n (pc := 5) X (th_da dtX4_hold 3 rfl) rfl ?_
  refine V_iload_n (pc := 6) X (th_da dtX4_hold 4 rfl) rfl ?_
  obtain ⟨u2, h2, e2, hf⟩ := th_bd_some hf
  refine V_callVi (pc := 7) (q := 0) (As := [.int x1]) X (th_da dtX4_hold 5 rfl) (mX4_isFlow l _ _ _ _ e2) wcd_X4_isFlow wml_X4_125 wim_X4_isFlow wse_X4_isFlow win_X4_isFlow hd_X4_isFlow ⟨Nat.le_of_ble_eq_true rfl, Nat.le_of_ble_eq_true rfl⟩ (Nat.le_of_ble_eq_true rfl) rfl rfl rfl ?_
  refine V_if_ne (pc := 10) (tgt := 19) X (th_da dtX4_hold 6 rfl) (by decide) (fun c3 => ?_) (fun c3 => ?_)
  · rw [if_pos c3] at hf
    refine V_aload_n (pc := 13) X (th_da dtX4_hold 7 rfl) rfl ?_
    refine V_iconst (pc := 14) (v := 1) X (th_da dtX4_hold 8 rfl) (by decide) ?_
    obtain ⟨u4, h4, e4, hf⟩ := th_bd_some hf
    refine V_callVi (pc := 15) (q := 0) (As := [.int 1]) X (th_da dtX4_hold 9 rfl) (mX4_refuse l _ _ _ _ e4) wcd_X4_refuse wml_X4_88 wim_X4_refuse wse_X4_refuse win_X4_refuse hd_X4_refuse ⟨Nat.le_of_ble_eq_true rfl, Nat.le_of_ble_eq_true rfl⟩ (Nat.le_of_ble_eq_true rfl) rfl rfl rfl ?_
    exact V_iretF (pc := 18) X (th_da dtX4_hold 10 rfl) hf
  · rw [if_neg c3] at hf
    refine V_iload_n (pc := 19) X (th_da dtX4_hold 11 rfl) rfl ?_
    refine V_if_eq (pc := 20) (tgt := 27) X (th_da dtX4_hold 12 rfl) (by decide) (fun c5 => ?_) (fun c5 => ?_)
    · rw [if_pos c5] at hf
      refine V_iconst (pc := 27) (v := 0) X (th_da dtX4_hold 15 rfl) (by decide) ?_
      refine V_mask [true, true, false, false] (ls2 := [.ref 0, .int x1, .null, .null]) rfl ?_
      exact tX4_hold_c28 X _ _ _ hf
    · rw [if_neg c5] at hf
      refine V_iconst (pc := 23) (v := 1) X (th_da dtX4_hold 13 rfl) (by decide) ?_
      refine V_goto (pc := 24) (tgt := 28) X (th_da dtX4_hold 14 rfl) (by decide) ?_
      refine V_mask [true, true, false, false] (ls2 := [.ref 0, .int x1, .null, .null]) rfl ?_
      exact tX4_hold_c28 X _ _ _ hf
end
def fX4_reroute_c46 : Nat → Int32 → Int32 → Int32 → Int32 → Int32 → th_H → Option (Int32 × th_H)
  | 0, _, _, _, _, _, _ => none
  | n + 1, y1, y2, y3, y4, y5, h =>
    if (y5 < 10 : Prop) then
      if (((y4 >>> (y5 &&& 31)) &&& 1) = 0 : Prop) then
        th_bd (fX4_knowsNothing y1 y5 h) fun _u3 h3 =>
        fX4_reroute_c46 n y1 y2 y3 y4 (y5 + 1) h3
      else
        if (((y2 >>> (y5 &&& 31)) &&& 1) = 0 : Prop) then
          th_bd (fX4_knowsNothing y1 y5 h) fun _u5 h5 =>
          fX4_reroute_c46 n y1 y2 y3 y4 (y5 + 1) h5
        else
          fX4_reroute_c46 n y1 y2 y3 y4 (y5 + 1) h
    else
      th_wr h 2 643 (y3 + 8) 0 fun h6 =>
      th_bd (fX4_ones (y2 &&& (y4 ^^^ (-1))) h6) fun u7 h7 =>
      some (u7, h7)
def fX4_reroute (x1 : Int32) (x2 : Int32) (h : th_H) : Option (Int32 × th_H) :=
  th_bd (fX4_at x1 h) fun u1 h1 =>
  th_rd h1 2 643 (u1 + 2) fun v2 =>
  th_wr h1 2 643 (u1 + 2) x2 fun h3 =>
  th_bd (fX4_isBound h3) fun u4 h4 =>
  if (u4 = 0 : Prop) then
    th_wr h4 2 643 (u1 + 2) v2 fun h6 =>
    some ((-1), h6)
  else
    fX4_reroute_c46 1000 x1 x2 u1 v2 0 h4
def tbX4_reroute : List (Nat × Instr × Nat) := [(0, .iload_n 1, 1), (1, .invokestatic 71, 3), (4, .istore_n 3, 1), (5, .aload_n 0, 1), (6, .getfield 15, 3), (9, .iload_n 3, 1), (10, .iconst 2, 1), (11, .iadd, 1), (12, .iaload, 1), (13, .istore 4, 2), (15, .aload_n 0, 1), (16, .getfield 15, 3), (19, .iload_n 3, 1), (20, .iconst 2, 1), (21, .iadd, 1), (22, .iload_n 2, 1), (23, .iastore, 1), (24, .aload_n 0, 1), (25, .invokevirtual 133, 3), (28, .ifCond .ne 15, 3), (31, .aload_n 0, 1), (32, .getfield 15, 3), (35, .iload_n 3, 1), (36, .iconst 2, 1), (37, .iadd, 1), (38, .iload 4, 2), (40, .iastore, 1), (41, .iconst (-1), 1), (42, .ireturn, 1), (43, .iconst 0, 1), (44, .istore 5, 2), (46, .iload 5, 2), (48, .bipush 10, 2), (50, .if_icmp .ge 35, 3), (53, .iload 4, 2), (55, .iload 5, 2), (57, .ishr, 1), (58, .iconst 1, 1), (59, .iand, 1), (60, .ifCond .eq 12, 3), (63, .iload_n 2, 1), (64, .iload 5, 2), (66, .ishr, 1), (67, .iconst 1, 1), (68, .iand, 1), (69, .ifCond .ne 10, 3), (72, .aload_n 0, 1), (73, .iload_n 1, 1), (74, .iload 5, 2), (76, .invokevirtual 94, 3), (79, .iinc 5 1, 3), (82, .goto (-36), 3), (85, .aload_n 0, 1), (86, .getfield 15, 3), (89, .iload_n 3, 1), (90, .bipush 8, 2), (92, .iadd, 1), (93, .iconst 0, 1), (94, .iastore, 1), (95, .iload_n 2, 1), (96, .iload 4, 2), (98, .iconst (-1), 1), (99, .ixor, 1), (100, .iand, 1), (101, .invokestatic 140, 3), (104, .ireturn, 1)]
theorem dtX4_reroute : th_dec cX4_reroute tbX4_reroute = true := by decide +kernel
section
variable {p0 : Program} {l : Launch} {e : Env} {s : State} {m : MethodId} {args : Array Value} {below : List Frame} {meth : Method} {c : Code} {D : va_G} {cI cZ : ClassId} {ad : Nat → Nat} {rr : Int32} {hh : th_H}
set_option maxHeartbeats 4000000 in
set_option maxRecDepth 100000 in
theorem tX4_reroute_c46 (X : th_X p0 s m args meth c D cI cZ ad LM 6 RX4 cX4_reroute (some .int)) : ∀ (n : Nat) (y1 : Int32) (y2 : Int32) (y3 : Int32) (y4 : Int32) (y5 : Int32) (h : th_H), fX4_reroute_c46 n y1 y2 y3 y4 y5 h = some (rr, hh) → th_V p0 l e { frames := 4, cells := 0, slots := 0, locals := 87 } s m args below meth c D cI cZ ad LM 6 (some (.int rr)) hh 46 [.ref 0, .int y1, .int y2, .int y3, .int y4, .int y5] [] h := by
  intro n
  induction n with
  | zero => intro y1 y2 y3 y4 y5 h hf; cases hf
  | succ n ih =>
    intro y1 y2 y3 y4 y5 h hf
    rw [fX4_reroute_c46] at hf
    refine V_iload (pc := 46) X (th_da dtX4_reroute 31 rfl) rfl ?_
    refine V_bipush (pc := 48) (v := 10) X (th_da dtX4_reroute 32 rfl) (by decide) ?_
    refine V_icmp_ge (pc := 50) (tgt := 85) X (th_da dtX4_reroute 33 rfl) (by decide) (fun c1 => ?_) (fun c1 => ?_)
    · rw [if_pos c1] at hf
      refine V_iload (pc := 53) X (th_da dtX4_reroute 34 rfl) rfl ?_
      refine V_iload (pc := 55) X (th_da dtX4_reroute 35 rfl) rfl ?_
      refine V_ishr (pc := 57) X (th_da dtX4_reroute 36 rfl) ?_
      refine V_iconst (pc := 58) (v := 1) X (th_da dtX4_reroute 37 rfl) (by decide) ?_
      refine V_iand (pc := 59) X (th_da dtX4_reroute 38 rfl) ?_
      refine V_if_eq (pc := 60) (tgt := 72) X (th_da dtX4_reroute 39 rfl) (by decide) (fun c2 => ?_) (fun c2 => ?_)
      · rw [if_pos c2] at hf
        refine V_aload_n (pc := 72) X (th_da dtX4_reroute 46 rfl) rfl ?_
        refine V_iload_n (pc := 73) X (th_da dtX4_reroute 47 rfl) rfl ?_
        refine V_iload (pc := 74) X (th_da dtX4_reroute 48 rfl) rfl ?_
        obtain ⟨u3, h3, e3, hf⟩ := th_bd_some hf
        refine V_callVv (pc := 76) (q := 0) (As := [.int y1, .int y5]) X (th_da dtX4_reroute 49 rfl) (mX4_knowsNothing l _ _ _ _ _ e3) wcd_X4_knowsNothing wml_X4_94 wim_X4_knowsNothing wse_X4_knowsNothing win_X4_knowsNothing hd_X4_knowsNothing ⟨Nat.le_of_ble_eq_true rfl, Nat.le_of_ble_eq_true rfl⟩ (Nat.le_of_ble_eq_true rfl) rfl rfl rfl ?_
        refine V_iinc (pc := 79) (v := y5 + 1) (ls2 := [.ref 0, .int y1, .int y2, .int y3, .int y4, .int (y5 + 1)]) X (th_da dtX4_reroute 50 rfl) rfl rfl (Nat.le_of_ble_eq_true rfl) rfl rfl ?_
        refine V_goto (pc := 82) (tgt := 46) X (th_da dtX4_reroute 51 rfl) (by decide) ?_
        exact ih _ _ _ _ _ _ hf
      · rw [if_neg c2] at hf
        refine V_iload_n (pc := 63) X (th_da dtX4_reroute 40 rfl) rfl ?_
        refine V_iload (pc := 64) X (th_da dtX4_reroute 41 rfl) rfl ?_
        refine V_ishr (pc := 66) X (th_da dtX4_reroute 42 rfl) ?_
        refine V_iconst (pc := 67) (v := 1) X (th_da dtX4_reroute 43 rfl) (by decide) ?_
        refine V_iand (pc := 68) X (th_da dtX4_reroute 44 rfl) ?_
        refine V_if_ne (pc := 69) (tgt := 79) X (th_da dtX4_reroute 45 rfl) (by decide) (fun c4 => ?_) (fun c4 => ?_)
        · rw [if_pos c4] at hf
          refine V_aload_n (pc := 72) X (th_da dtX4_reroute 46 rfl) rfl ?_
          refine V_iload_n (pc := 73) X (th_da dtX4_reroute 47 rfl) rfl ?_
          refine V_iload (pc := 74) X (th_da dtX4_reroute 48 rfl) rfl ?_
          obtain ⟨u5, h5, e5, hf⟩ := th_bd_some hf
          refine V_callVv (pc := 76) (q := 0) (As := [.int y1, .int y5]) X (th_da dtX4_reroute 49 rfl) (mX4_knowsNothing l _ _ _ _ _ e5) wcd_X4_knowsNothing wml_X4_94 wim_X4_knowsNothing wse_X4_knowsNothing win_X4_knowsNothing hd_X4_knowsNothing ⟨Nat.le_of_ble_eq_true rfl, Nat.le_of_ble_eq_true rfl⟩ (Nat.le_of_ble_eq_true rfl) rfl rfl rfl ?_
          refine V_iinc (pc := 79) (v := y5 + 1) (ls2 := [.ref 0, .int y1, .int y2, .int y3, .int y4, .int (y5 + 1)]) X (th_da dtX4_reroute 50 rfl) rfl rfl (Nat.le_of_ble_eq_true rfl) rfl rfl ?_
          refine V_goto (pc := 82) (tgt := 46) X (th_da dtX4_reroute 51 rfl) (by decide) ?_
          exact ih _ _ _ _ _ _ hf
        · rw [if_neg c4] at hf
          refine V_iinc (pc := 79) (v := y5 + 1) (ls2 := [.ref 0, .int y1, .int y2, .int y3, .int y4, .int (y5 + 1)]) X (th_da dtX4_reroute 50 rfl) rfl rfl (Nat.le_of_ble_eq_true rfl) rfl rfl ?_
          refine V_goto (pc := 82) (tgt := 46) X (th_da dtX4_reroute 51 rfl) (by decide) ?_
          exact ih _ _ _ _ _ _ hf
    · rw [if_neg c1] at hf
      refine V_aload_n (pc := 85) X (th_da dtX4_reroute 52 rfl) rfl ?_
      refine V_getR (pc := 86) (j := 2) (t := 2) X (th_da dtX4_reroute 53 rfl) wfl_X4_15 iX4 rfl rfl (Nat.le_of_ble_eq_true rfl) rfl ?_
      refine V_iload_n (pc := 89) X (th_da dtX4_reroute 54 rfl) rfl ?_
      refine V_bipush (pc := 90) (v := 8) X (th_da dtX4_reroute 55 rfl) (by decide) ?_
      refine V_iadd (pc := 92) X (th_da dtX4_reroute 56 rfl) ?_
      refine V_iconst (pc := 93) (v := 0) X (th_da dtX4_reroute 57 rfl) (by decide) ?_
      obtain ⟨h6, e6, g6, hf⟩ := th_wr_some hf
      refine V_iast (pc := 94) X (th_da dtX4_reroute 58 rfl) rfl g6 e6 ?_
      refine V_iload_n (pc := 95) X (th_da dtX4_reroute 59 rfl) rfl ?_
      refine V_iload (pc := 96) X (th_da dtX4_reroute 60 rfl) rfl ?_
      refine V_iconst (pc := 98) (v := (-1)) X (th_da dtX4_reroute 61 rfl) (by decide) ?_
      refine V_ixor (pc := 99) X (th_da dtX4_reroute 62 rfl) ?_
      refine V_iand (pc := 100) X (th_da dtX4_reroute 63 rfl) ?_
      obtain ⟨u7, h7, e7, hf⟩ := th_bd_some hf
      refine V_callSi (pc := 101) (As := [.int (y2 &&& (y4 ^^^ (-1)))]) X (th_da dtX4_reroute 64 rfl) (mX4_ones l _ _ _ _ e7) wcd_X4_ones wml_X4_140 wst_X4_ones win_X4_ones hd_X4_ones ⟨Nat.le_of_ble_eq_true rfl, Nat.le_of_ble_eq_true rfl⟩ (Nat.le_of_ble_eq_true rfl) rfl ?_
      exact V_iretF (pc := 104) X (th_da dtX4_reroute 65 rfl) hf
set_option maxHeartbeats 4000000 in
set_option maxRecDepth 100000 in
theorem mX4_reroute (l : Launch) (x1 : Int32) (x2 : Int32) (h : th_H) (rr : Int32) (hh : th_H) (hf : fX4_reroute x1 x2 h = some (rr, hh)) : th_MI l LM yX4_reroute cX4_reroute 6 (some .int) 4 87 [.ref 0, .int x1, .int x2] h (some (.int rr)) hh := by
  refine th_MI_of (ls := [.ref 0, .int x1, .int x2, .null, .null, .null]) RX4 rfl rfl rfl (Nat.le_of_ble_eq_true rfl) ?_
  intro p0 e s m args below meth c D cI cZ ad X
  unfold fX4_reroute at hf
  refine V_iload_n (pc := 0) X (th_da dtX4_reroute 0 rfl) rfl ?_
  obtain ⟨u1, h1, e1, hf⟩ := th_bd_some hf
  refine V_callSi (pc := 1) (As := [.int x1]) X (th_da dtX4_reroute 1 rfl) (mX4_at l _ _ _ _ e1) wcd_X4_at wml_X4_71 wst_X4_at win_X4_at hd_X4_at ⟨Nat.le_of_ble_eq_true rfl, Nat.le_of_ble_eq_true rfl⟩ (Nat.le_of_ble_eq_true rfl) rfl ?_
  refine V_istore_n (pc := 4) (ls2 := [.ref 0, .int x1, .int x2, .int u1, .null, .null]) X (th_da dtX4_reroute 2 rfl) (Nat.le_of_ble_eq_true rfl) rfl rfl ?_
  refine V_aload_n (pc := 5) X (th_da dtX4_reroute 3 rfl) rfl ?_
  refine V_getR (pc := 6) (j := 2) (t := 2) X (th_da dtX4_reroute 4 rfl) wfl_X4_15 iX4 rfl rfl (Nat.le_of_ble_eq_true rfl) rfl ?_
  refine V_iload_n (pc := 9) X (th_da dtX4_reroute 5 rfl) rfl ?_
  refine V_iconst (pc := 10) (v := 2) X (th_da dtX4_reroute 6 rfl) (by decide) ?_
  refine V_iadd (pc := 11) X (th_da dtX4_reroute 7 rfl) ?_
  obtain ⟨v2, e2, g2, hf⟩ := th_rd_some hf
  refine V_iald (pc := 12) X (th_da dtX4_reroute 8 rfl) rfl g2 e2 ?_
  refine V_istore (pc := 13) (ls2 := [.ref 0, .int x1, .int x2, .int u1, .int v2, .null]) X (th_da dtX4_reroute 9 rfl) (Nat.le_of_ble_eq_true rfl) rfl rfl ?_
  refine V_aload_n (pc := 15) X (th_da dtX4_reroute 10 rfl) rfl ?_
  refine V_getR (pc := 16) (j := 2) (t := 2) X (th_da dtX4_reroute 11 rfl) wfl_X4_15 iX4 rfl rfl (Nat.le_of_ble_eq_true rfl) rfl ?_
  refine V_iload_n (pc := 19) X (th_da dtX4_reroute 12 rfl) rfl ?_
  refine V_iconst (pc := 20) (v := 2) X (th_da dtX4_reroute 13 rfl) (by decide) ?_
  refine V_iadd (pc := 21) X (th_da dtX4_reroute 14 rfl) ?_
  refine V_iload_n (pc := 22) X (th_da dtX4_reroute 15 rfl) rfl ?_
  obtain ⟨h3, e3, g3, hf⟩ := th_wr_some hf
  refine V_iast (pc := 23) X (th_da dtX4_reroute 16 rfl) rfl g3 e3 ?_
  refine V_aload_n (pc := 24) X (th_da dtX4_reroute 17 rfl) rfl ?_
  obtain ⟨u4, h4, e4, hf⟩ := th_bd_some hf
  refine V_callVi (pc := 25) (q := 0) (As := []) X (th_da dtX4_reroute 18 rfl) (mX4_isBound l _ _ _ e4) wcd_X4_isBound wml_X4_133 wim_X4_isBound wse_X4_isBound win_X4_isBound hd_X4_isBound ⟨Nat.le_of_ble_eq_true rfl, Nat.le_of_ble_eq_true rfl⟩ (Nat.le_of_ble_eq_true rfl) rfl rfl rfl ?_
  refine V_if_ne (pc := 28) (tgt := 43) X (th_da dtX4_reroute 19 rfl) (by decide) (fun c5 => ?_) (fun c5 => ?_)
  · rw [if_pos c5] at hf
    refine V_aload_n (pc := 31) X (th_da dtX4_reroute 20 rfl) rfl ?_
    refine V_getR (pc := 32) (j := 2) (t := 2) X (th_da dtX4_reroute 21 rfl) wfl_X4_15 iX4 rfl rfl (Nat.le_of_ble_eq_true rfl) rfl ?_
    refine V_iload_n (pc := 35) X (th_da dtX4_reroute 22 rfl) rfl ?_
    refine V_iconst (pc := 36) (v := 2) X (th_da dtX4_reroute 23 rfl) (by decide) ?_
    refine V_iadd (pc := 37) X (th_da dtX4_reroute 24 rfl) ?_
    refine V_iload (pc := 38) X (th_da dtX4_reroute 25 rfl) rfl ?_
    obtain ⟨h6, e6, g6, hf⟩ := th_wr_some hf
    refine V_iast (pc := 40) X (th_da dtX4_reroute 26 rfl) rfl g6 e6 ?_
    refine V_iconst (pc := 41) (v := (-1)) X (th_da dtX4_reroute 27 rfl) (by decide) ?_
    exact V_iretF (pc := 42) X (th_da dtX4_reroute 28 rfl) hf
  · rw [if_neg c5] at hf
    refine V_iconst (pc := 43) (v := 0) X (th_da dtX4_reroute 29 rfl) (by decide) ?_
    refine V_istore (pc := 44) (ls2 := [.ref 0, .int x1, .int x2, .int u1, .int v2, .int 0]) X (th_da dtX4_reroute 30 rfl) (Nat.le_of_ble_eq_true rfl) rfl rfl ?_
    exact tX4_reroute_c46 X _ _ _ _ _ _ _ hf
end
def fX4_route (x1 : Int32) (x2 : Int32) (h : th_H) : Option (Int32 × th_H) :=
  th_st (th_up h 0 0 0) fun h1 =>
  th_bd (fX4_areLinks x2 h1) fun u2 h2 =>
  if (u2 = 0 : Prop) then
    th_bd (fX4_refuse 0 h2) fun u4 h4 =>
    some (u4, h4)
  else
    th_bd (fX4_isFlow x1 h2) fun u5 h5 =>
    if (u5 = 0 : Prop) then
      th_bd (fX4_refuse 1 h5) fun u7 h7 =>
      some (u7, h7)
    else
      th_bd (fX4_at x1 h5) fun u8 h8 =>
      th_rd h8 2 643 (u8 + 2) fun v9 =>
      if (v9 = x2 : Prop) then
        th_bd (fX4_refuse 2 h8) fun u11 h11 =>
        some (u11, h11)
      else
        th_bd (fX4_reroute x1 x2 h8) fun u12 h12 =>
        if (u12 = (-1) : Prop) then
          th_bd (fX4_refuse 4 h12) fun u14 h14 =>
          some (u14, h14)
        else
          some (u12, h12)
def tbX4_route : List (Nat × Instr × Nat) := [(0, .aload_n 0, 1), (1, .iconst 0, 1), (2, .putfield 55, 3), (5, .iload_n 2, 1), (6, .invokestatic 98, 3), (9, .ifCond .ne 9, 3), (12, .aload_n 0, 1), (13, .iconst 0, 1), (14, .invokevirtual 88, 3), (17, .ireturn, 1), (18, .aload_n 0, 1), (19, .iload_n 1, 1), (20, .invokevirtual 125, 3), (23, .ifCond .ne 9, 3), (26, .aload_n 0, 1), (27, .iconst 1, 1), (28, .invokevirtual 88, 3), (31, .ireturn, 1), (32, .aload_n 0, 1), (33, .getfield 15, 3), (36, .iload_n 1, 1), (37, .invokestatic 71, 3), (40, .iconst 2, 1), (41, .iadd, 1), (42, .iaload, 1), (43, .iload_n 2, 1), (44, .if_icmp .ne 9, 3), (47, .aload_n 0, 1), (48, .iconst 2, 1), (49, .invokevirtual 88, 3), (52, .ireturn, 1), (53, .aload_n 0, 1), (54, .iload_n 1, 1), (55, .iload_n 2, 1), (56, .invokevirtual 143, 3), (59, .istore_n 3, 1), (60, .iload_n 3, 1), (61, .iconst (-1), 1), (62, .if_icmp .ne 11, 3), (65, .aload_n 0, 1), (66, .iconst 4, 1), (67, .invokevirtual 88, 3), (70, .goto 4, 3), (73, .iload_n 3, 1), (74, .ireturn, 1)]
theorem dtX4_route : th_dec cX4_route tbX4_route = true := by decide +kernel
section
variable {p0 : Program} {l : Launch} {e : Env} {s : State} {m : MethodId} {args : Array Value} {below : List Frame} {meth : Method} {c : Code} {D : va_G} {cI cZ : ClassId} {ad : Nat → Nat} {rr : Int32} {hh : th_H}
set_option maxHeartbeats 4000000 in
set_option maxRecDepth 100000 in
theorem mX4_route (l : Launch) (x1 : Int32) (x2 : Int32) (h : th_H) (rr : Int32) (hh : th_H) (hf : fX4_route x1 x2 h = some (rr, hh)) : th_MI l LM yX4_route cX4_route 4 (some .int) 5 112 [.ref 0, .int x1, .int x2] h (some (.int rr)) hh := by
  refine th_MI_of (ls := [.ref 0, .int x1, .int x2, .null]) RX4 rfl rfl rfl (Nat.le_of_ble_eq_true rfl) ?_
  intro p0 e s m args below meth c D cI cZ ad X
  unfold fX4_route at hf
  refine V_aload_n (pc := 0) X (th_da dtX4_route 0 rfl) rfl ?_
  refine V_iconst (pc := 1) (v := 0) X (th_da dtX4_route 1 rfl) (by decide) ?_
  obtain ⟨h1, e1, hf⟩ := th_st_some hf
  refine V_putI (pc := 2) (j := 0) (ty := .int) X (th_da dtX4_route 2 rfl) wfl_X4_55 iX4 rfl rfl (Nat.le_of_ble_eq_true rfl) rfl tyX4 tyX4_ok nmX4 rfl (tyX4_ok 0 (Nat.le_of_ble_eq_true rfl)) rfl rfl e1 ?_
  refine V_iload_n (pc := 5) X (th_da dtX4_route 3 rfl) rfl ?_
  obtain ⟨u2, h2, e2, hf⟩ := th_bd_some hf
  refine V_callSi (pc := 6) (As := [.int x2]) X (th_da dtX4_route 4 rfl) (mX4_areLinks l _ _ _ _ e2) wcd_X4_areLinks wml_X4_98 wst_X4_areLinks win_X4_areLinks hd_X4_areLinks ⟨Nat.le_of_ble_eq_true rfl, Nat.le_of_ble_eq_true rfl⟩ (Nat.le_of_ble_eq_true rfl) rfl ?_
  refine V_if_ne (pc := 9) (tgt := 18) X (th_da dtX4_route 5 rfl) (by decide) (fun c3 => ?_) (fun c3 => ?_)
  · rw [if_pos c3] at hf
    refine V_aload_n (pc := 12) X (th_da dtX4_route 6 rfl) rfl ?_
    refine V_iconst (pc := 13) (v := 0) X (th_da dtX4_route 7 rfl) (by decide) ?_
    obtain ⟨u4, h4, e4, hf⟩ := th_bd_some hf
    refine V_callVi (pc := 14) (q := 0) (As := [.int 0]) X (th_da dtX4_route 8 rfl) (mX4_refuse l _ _ _ _ e4) wcd_X4_refuse wml_X4_88 wim_X4_refuse wse_X4_refuse win_X4_refuse hd_X4_refuse ⟨Nat.le_of_ble_eq_true rfl, Nat.le_of_ble_eq_true rfl⟩ (Nat.le_of_ble_eq_true rfl) rfl rfl rfl ?_
    exact V_iretF (pc := 17) X (th_da dtX4_route 9 rfl) hf
  · rw [if_neg c3] at hf
    refine V_aload_n (pc := 18) X (th_da dtX4_route 10 rfl) rfl ?_
    refine V_iload_n (pc := 19) X (th_da dtX4_route 11 rfl) rfl ?_
    obtain ⟨u5, h5, e5, hf⟩ := th_bd_some hf
    refine V_callVi (pc := 20) (q := 0) (As := [.int x1]) X (th_da dtX4_route 12 rfl) (mX4_isFlow l _ _ _ _ e5) wcd_X4_isFlow wml_X4_125 wim_X4_isFlow wse_X4_isFlow win_X4_isFlow hd_X4_isFlow ⟨Nat.le_of_ble_eq_true rfl, Nat.le_of_ble_eq_true rfl⟩ (Nat.le_of_ble_eq_true rfl) rfl rfl rfl ?_
    refine V_if_ne (pc := 23) (tgt := 32) X (th_da dtX4_route 13 rfl) (by decide) (fun c6 => ?_) (fun c6 => ?_)
    · rw [if_pos c6] at hf
      refine V_aload_n (pc := 26) X (th_da dtX4_route 14 rfl) rfl ?_
      refine V_iconst (pc := 27) (v := 1) X (th_da dtX4_route 15 rfl) (by decide) ?_
      obtain ⟨u7, h7, e7, hf⟩ := th_bd_some hf
      refine V_callVi (pc := 28) (q := 0) (As := [.int 1]) X (th_da dtX4_route 16 rfl) (mX4_refuse l _ _ _ _ e7) wcd_X4_refuse wml_X4_88 wim_X4_refuse wse_X4_refuse win_X4_refuse hd_X4_refuse ⟨Nat.le_of_ble_eq_true rfl, Nat.le_of_ble_eq_true rfl⟩ (Nat.le_of_ble_eq_true rfl) rfl rfl rfl ?_
      exact V_iretF (pc := 31) X (th_da dtX4_route 17 rfl) hf
    · rw [if_neg c6] at hf
      refine V_aload_n (pc := 32) X (th_da dtX4_route 18 rfl) rfl ?_
      refine V_getR (pc := 33) (j := 2) (t := 2) X (th_da dtX4_route 19 rfl) wfl_X4_15 iX4 rfl rfl (Nat.le_of_ble_eq_true rfl) rfl ?_
      refine V_iload_n (pc := 36) X (th_da dtX4_route 20 rfl) rfl ?_
      obtain ⟨u8, h8, e8, hf⟩ := th_bd_some hf
      refine V_callSi (pc := 37) (As := [.int x1]) X (th_da dtX4_route 21 rfl) (mX4_at l _ _ _ _ e8) wcd_X4_at wml_X4_71 wst_X4_at win_X4_at hd_X4_at ⟨Nat.le_of_ble_eq_true rfl, Nat.le_of_ble_eq_true rfl⟩ (Nat.le_of_ble_eq_true rfl) rfl ?_
      refine V_iconst (pc := 40) (v := 2) X (th_da dtX4_route 22 rfl) (by decide) ?_
      refine V_iadd (pc := 41) X (th_da dtX4_route 23 rfl) ?_
      obtain ⟨v9, e9, g9, hf⟩ := th_rd_some hf
      refine V_iald (pc := 42) X (th_da dtX4_route 24 rfl) rfl g9 e9 ?_
      refine V_iload_n (pc := 43) X (th_da dtX4_route 25 rfl) rfl ?_
      refine V_icmp_ne (pc := 44) (tgt := 53) X (th_da dtX4_route 26 rfl) (by decide) (fun c10 => ?_) (fun c10 => ?_)
      · rw [if_pos c10] at hf
        refine V_aload_n (pc := 47) X (th_da dtX4_route 27 rfl) rfl ?_
        refine V_iconst (pc := 48) (v := 2) X (th_da dtX4_route 28 rfl) (by decide) ?_
        obtain ⟨u11, h11, e11, hf⟩ := th_bd_some hf
        refine V_callVi (pc := 49) (q := 0) (As := [.int 2]) X (th_da dtX4_route 29 rfl) (mX4_refuse l _ _ _ _ e11) wcd_X4_refuse wml_X4_88 wim_X4_refuse wse_X4_refuse win_X4_refuse hd_X4_refuse ⟨Nat.le_of_ble_eq_true rfl, Nat.le_of_ble_eq_true rfl⟩ (Nat.le_of_ble_eq_true rfl) rfl rfl rfl ?_
        exact V_iretF (pc := 52) X (th_da dtX4_route 30 rfl) hf
      · rw [if_neg c10] at hf
        refine V_aload_n (pc := 53) X (th_da dtX4_route 31 rfl) rfl ?_
        refine V_iload_n (pc := 54) X (th_da dtX4_route 32 rfl) rfl ?_
        refine V_iload_n (pc := 55) X (th_da dtX4_route 33 rfl) rfl ?_
        obtain ⟨u12, h12, e12, hf⟩ := th_bd_some hf
        refine V_callVi (pc := 56) (q := 0) (As := [.int x1, .int x2]) X (th_da dtX4_route 34 rfl) (mX4_reroute l _ _ _ _ _ e12) wcd_X4_reroute wml_X4_143 wim_X4_reroute wse_X4_reroute win_X4_reroute hd_X4_reroute ⟨Nat.le_of_ble_eq_true rfl, Nat.le_of_ble_eq_true rfl⟩ (Nat.le_of_ble_eq_true rfl) rfl rfl rfl ?_
        refine V_istore_n (pc := 59) (ls2 := [.ref 0, .int x1, .int x2, .int u12]) X (th_da dtX4_route 35 rfl) (Nat.le_of_ble_eq_true rfl) rfl rfl ?_
        refine V_iload_n (pc := 60) X (th_da dtX4_route 36 rfl) rfl ?_
        refine V_iconst (pc := 61) (v := (-1)) X (th_da dtX4_route 37 rfl) (by decide) ?_
        refine V_icmp_ne (pc := 62) (tgt := 73) X (th_da dtX4_route 38 rfl) (by decide) (fun c13 => ?_) (fun c13 => ?_)
        · rw [if_pos c13] at hf
          refine V_aload_n (pc := 65) X (th_da dtX4_route 39 rfl) rfl ?_
          refine V_iconst (pc := 66) (v := 4) X (th_da dtX4_route 40 rfl) (by decide) ?_
          obtain ⟨u14, h14, e14, hf⟩ := th_bd_some hf
          refine V_callVi (pc := 67) (q := 0) (As := [.int 4]) X (th_da dtX4_route 41 rfl) (mX4_refuse l _ _ _ _ e14) wcd_X4_refuse wml_X4_88 wim_X4_refuse wse_X4_refuse win_X4_refuse hd_X4_refuse ⟨Nat.le_of_ble_eq_true rfl, Nat.le_of_ble_eq_true rfl⟩ (Nat.le_of_ble_eq_true rfl) rfl rfl rfl ?_
          refine V_goto (pc := 70) (tgt := 74) X (th_da dtX4_route 42 rfl) (by decide) ?_
          exact V_iretF (pc := 74) X (th_da dtX4_route 44 rfl) hf
        · rw [if_neg c13] at hf
          refine V_iload_n (pc := 73) X (th_da dtX4_route 43 rfl) rfl ?_
          exact V_iretF (pc := 74) X (th_da dtX4_route 44 rfl) hf
end
def fX4_lose (x1 : Int32) (x2 : Int32) (h : th_H) : Option (Int32 × th_H) :=
  th_st (th_up h 0 0 0) fun h1 =>
  th_bd (fX4_isLink x1 h1) fun u2 h2 =>
  if (u2 = 0 : Prop) then
    th_bd (fX4_refuse 0 h2) fun u4 h4 =>
    some (u4, h4)
  else
    th_bd (fX4_in (Int32.toInt64 x2) 0 99 h2) fun u5 h5 =>
    if (u5 = 0 : Prop) then
      th_bd (fX4_refuse 0 h5) fun u7 h7 =>
      some (u7, h7)
    else
      th_rd h5 2 643 ((13 : Int32) + x1) fun v8 =>
      th_wr h5 2 643 ((13 : Int32) + x1) x2 fun h9 =>
      some (v8, h9)
def tbX4_lose : List (Nat × Instr × Nat) := [(0, .aload_n 0, 1), (1, .iconst 0, 1), (2, .putfield 55, 3), (5, .iload_n 1, 1), (6, .invokestatic 82, 3), (9, .ifCond .eq 15, 3), (12, .iload_n 2, 1), (13, .i2l, 1), (14, .lconst 0, 1), (15, .ldc2_w 146, 3), (18, .invokestatic 63, 3), (21, .ifCond .ne 9, 3), (24, .aload_n 0, 1), (25, .iconst 0, 1), (26, .invokevirtual 88, 3), (29, .ireturn, 1), (30, .aload_n 0, 1), (31, .getfield 15, 3), (34, .bipush 13, 2), (36, .iload_n 1, 1), (37, .iadd, 1), (38, .iaload, 1), (39, .istore_n 3, 1), (40, .aload_n 0, 1), (41, .getfield 15, 3), (44, .bipush 13, 2), (46, .iload_n 1, 1), (47, .iadd, 1), (48, .iload_n 2, 1), (49, .iastore, 1), (50, .iload_n 3, 1), (51, .ireturn, 1)]
theorem dtX4_lose : th_dec cX4_lose tbX4_lose = true := by decide +kernel
section
variable {p0 : Program} {l : Launch} {e : Env} {s : State} {m : MethodId} {args : Array Value} {below : List Frame} {meth : Method} {c : Code} {D : va_G} {cI cZ : ClassId} {ad : Nat → Nat} {rr : Int32} {hh : th_H}
set_option maxHeartbeats 4000000 in
set_option maxRecDepth 100000 in
theorem mX4_lose (l : Launch) (x1 : Int32) (x2 : Int32) (h : th_H) (rr : Int32) (hh : th_H) (hf : fX4_lose x1 x2 h = some (rr, hh)) : th_MI l LM yX4_lose cX4_lose 4 (some .int) 2 45 [.ref 0, .int x1, .int x2] h (some (.int rr)) hh := by
  refine th_MI_of (ls := [.ref 0, .int x1, .int x2, .null]) RX4 rfl rfl rfl (Nat.le_of_ble_eq_true rfl) ?_
  intro p0 e s m args below meth c D cI cZ ad X
  unfold fX4_lose at hf
  refine V_aload_n (pc := 0) X (th_da dtX4_lose 0 rfl) rfl ?_
  refine V_iconst (pc := 1) (v := 0) X (th_da dtX4_lose 1 rfl) (by decide) ?_
  obtain ⟨h1, e1, hf⟩ := th_st_some hf
  refine V_putI (pc := 2) (j := 0) (ty := .int) X (th_da dtX4_lose 2 rfl) wfl_X4_55 iX4 rfl rfl (Nat.le_of_ble_eq_true rfl) rfl tyX4 tyX4_ok nmX4 rfl (tyX4_ok 0 (Nat.le_of_ble_eq_true rfl)) rfl rfl e1 ?_
  refine V_iload_n (pc := 5) X (th_da dtX4_lose 3 rfl) rfl ?_
  obtain ⟨u2, h2, e2, hf⟩ := th_bd_some hf
  refine V_callSi (pc := 6) (As := [.int x1]) X (th_da dtX4_lose 4 rfl) (mX4_isLink l _ _ _ _ e2) wcd_X4_isLink wml_X4_82 wst_X4_isLink win_X4_isLink hd_X4_isLink ⟨Nat.le_of_ble_eq_true rfl, Nat.le_of_ble_eq_true rfl⟩ (Nat.le_of_ble_eq_true rfl) rfl ?_
  refine V_if_eq (pc := 9) (tgt := 24) X (th_da dtX4_lose 5 rfl) (by decide) (fun c3 => ?_) (fun c3 => ?_)
  · rw [if_pos c3] at hf
    refine V_aload_n (pc := 24) X (th_da dtX4_lose 12 rfl) rfl ?_
    refine V_iconst (pc := 25) (v := 0) X (th_da dtX4_lose 13 rfl) (by decide) ?_
    obtain ⟨u4, h4, e4, hf⟩ := th_bd_some hf
    refine V_callVi (pc := 26) (q := 0) (As := [.int 0]) X (th_da dtX4_lose 14 rfl) (mX4_refuse l _ _ _ _ e4) wcd_X4_refuse wml_X4_88 wim_X4_refuse wse_X4_refuse win_X4_refuse hd_X4_refuse ⟨Nat.le_of_ble_eq_true rfl, Nat.le_of_ble_eq_true rfl⟩ (Nat.le_of_ble_eq_true rfl) rfl rfl rfl ?_
    exact V_iretF (pc := 29) X (th_da dtX4_lose 15 rfl) hf
  · rw [if_neg c3] at hf
    refine V_iload_n (pc := 12) X (th_da dtX4_lose 6 rfl) rfl ?_
    refine V_i2l (pc := 13) X (th_da dtX4_lose 7 rfl) ?_
    refine V_lconst (pc := 14) (v := 0) X (th_da dtX4_lose 8 rfl) (by decide) ?_
    refine V_ldc2 (pc := 15) (v := 99) X (th_da dtX4_lose 9 rfl) wcl_X4_146 ?_
    obtain ⟨u5, h5, e5, hf⟩ := th_bd_some hf
    refine V_callSi (pc := 18) (As := [.long (Int32.toInt64 x2), .long 0, .long 99]) X (th_da dtX4_lose 10 rfl) (mX4_in l _ _ _ _ _ _ e5) wcd_X4_in wml_X4_63 wst_X4_in win_X4_in hd_X4_in ⟨Nat.le_of_ble_eq_true rfl, Nat.le_of_ble_eq_true rfl⟩ (Nat.le_of_ble_eq_true rfl) rfl ?_
    refine V_if_ne (pc := 21) (tgt := 30) X (th_da dtX4_lose 11 rfl) (by decide) (fun c6 => ?_) (fun c6 => ?_)
    · rw [if_pos c6] at hf
      refine V_aload_n (pc := 24) X (th_da dtX4_lose 12 rfl) rfl ?_
      refine V_iconst (pc := 25) (v := 0) X (th_da dtX4_lose 13 rfl) (by decide) ?_
      obtain ⟨u7, h7, e7, hf⟩ := th_bd_some hf
      refine V_callVi (pc := 26) (q := 0) (As := [.int 0]) X (th_da dtX4_lose 14 rfl) (mX4_refuse l _ _ _ _ e7) wcd_X4_refuse wml_X4_88 wim_X4_refuse wse_X4_refuse win_X4_refuse hd_X4_refuse ⟨Nat.le_of_ble_eq_true rfl, Nat.le_of_ble_eq_true rfl⟩ (Nat.le_of_ble_eq_true rfl) rfl rfl rfl ?_
      exact V_iretF (pc := 29) X (th_da dtX4_lose 15 rfl) hf
    · rw [if_neg c6] at hf
      refine V_aload_n (pc := 30) X (th_da dtX4_lose 16 rfl) rfl ?_
      refine V_getR (pc := 31) (j := 2) (t := 2) X (th_da dtX4_lose 17 rfl) wfl_X4_15 iX4 rfl rfl (Nat.le_of_ble_eq_true rfl) rfl ?_
      refine V_bipush (pc := 34) (v := 13) X (th_da dtX4_lose 18 rfl) (by decide) ?_
      refine V_iload_n (pc := 36) X (th_da dtX4_lose 19 rfl) rfl ?_
      refine V_iadd (pc := 37) X (th_da dtX4_lose 20 rfl) ?_
      obtain ⟨v8, e8, g8, hf⟩ := th_rd_some hf
      refine V_iald (pc := 38) X (th_da dtX4_lose 21 rfl) rfl g8 e8 ?_
      refine V_istore_n (pc := 39) (ls2 := [.ref 0, .int x1, .int x2, .int v8]) X (th_da dtX4_lose 22 rfl) (Nat.le_of_ble_eq_true rfl) rfl rfl ?_
      refine V_aload_n (pc := 40) X (th_da dtX4_lose 23 rfl) rfl ?_
      refine V_getR (pc := 41) (j := 2) (t := 2) X (th_da dtX4_lose 24 rfl) wfl_X4_15 iX4 rfl rfl (Nat.le_of_ble_eq_true rfl) rfl ?_
      refine V_bipush (pc := 44) (v := 13) X (th_da dtX4_lose 25 rfl) (by decide) ?_
      refine V_iload_n (pc := 46) X (th_da dtX4_lose 26 rfl) rfl ?_
      refine V_iadd (pc := 47) X (th_da dtX4_lose 27 rfl) ?_
      refine V_iload_n (pc := 48) X (th_da dtX4_lose 28 rfl) rfl ?_
      obtain ⟨h9, e9, g9, hf⟩ := th_wr_some hf
      refine V_iast (pc := 49) X (th_da dtX4_lose 29 rfl) rfl g9 e9 ?_
      refine V_iload_n (pc := 50) X (th_da dtX4_lose 30 rfl) rfl ?_
      exact V_iretF (pc := 51) X (th_da dtX4_lose 31 rfl) hf
end
def fX4_elsewhere (x1 : Int32) (x2 : Int32) (h : th_H) : Option (Int32 × th_H) :=
  th_rd h 2 643 (((243 : Int32) + ((10 : Int32) * x1)) + x2) fun v1 =>
  th_rd h 2 643 (((443 : Int32) + ((10 : Int32) * x1)) + x2) fun v2 =>
  th_bd (fX4_lesser v1 v2 h) fun u3 h3 =>
  some (u3, h3)
def tbX4_elsewhere : List (Nat × Instr × Nat) := [(0, .aload_n 0, 1), (1, .getfield 15, 3), (4, .sipush 243, 3), (7, .bipush 10, 2), (9, .iload_n 1, 1), (10, .imul, 1), (11, .iadd, 1), (12, .iload_n 2, 1), (13, .iadd, 1), (14, .iaload, 1), (15, .aload_n 0, 1), (16, .getfield 15, 3), (19, .sipush 443, 3), (22, .bipush 10, 2), (24, .iload_n 1, 1), (25, .imul, 1), (26, .iadd, 1), (27, .iload_n 2, 1), (28, .iadd, 1), (29, .iaload, 1), (30, .invokestatic 108, 3), (33, .ireturn, 1)]
theorem dtX4_elsewhere : th_dec cX4_elsewhere tbX4_elsewhere = true := by decide +kernel
section
variable {p0 : Program} {l : Launch} {e : Env} {s : State} {m : MethodId} {args : Array Value} {below : List Frame} {meth : Method} {c : Code} {D : va_G} {cI cZ : ClassId} {ad : Nat → Nat} {rr : Int32} {hh : th_H}
set_option maxHeartbeats 4000000 in
set_option maxRecDepth 100000 in
theorem mX4_elsewhere (l : Launch) (x1 : Int32) (x2 : Int32) (h : th_H) (rr : Int32) (hh : th_H) (hf : fX4_elsewhere x1 x2 h = some (rr, hh)) : th_MI l LM yX4_elsewhere cX4_elsewhere 3 (some .int) 1 21 [.ref 0, .int x1, .int x2] h (some (.int rr)) hh := by
  refine th_MI_of (ls := [.ref 0, .int x1, .int x2]) RX4 rfl rfl rfl (Nat.le_of_ble_eq_true rfl) ?_
  intro p0 e s m args below meth c D cI cZ ad X
  unfold fX4_elsewhere at hf
  refine V_aload_n (pc := 0) X (th_da dtX4_elsewhere 0 rfl) rfl ?_
  refine V_getR (pc := 1) (j := 2) (t := 2) X (th_da dtX4_elsewhere 1 rfl) wfl_X4_15 iX4 rfl rfl (Nat.le_of_ble_eq_true rfl) rfl ?_
  refine V_sipush (pc := 4) (v := 243) X (th_da dtX4_elsewhere 2 rfl) (by decide) ?_
  refine V_bipush (pc := 7) (v := 10) X (th_da dtX4_elsewhere 3 rfl) (by decide) ?_
  refine V_iload_n (pc := 9) X (th_da dtX4_elsewhere 4 rfl) rfl ?_
  refine V_imul (pc := 10) X (th_da dtX4_elsewhere 5 rfl) ?_
  refine V_iadd (pc := 11) X (th_da dtX4_elsewhere 6 rfl) ?_
  refine V_iload_n (pc := 12) X (th_da dtX4_elsewhere 7 rfl) rfl ?_
  refine V_iadd (pc := 13) X (th_da dtX4_elsewhere 8 rfl) ?_
  obtain ⟨v1, e1, g1, hf⟩ := th_rd_some hf
  refine V_iald (pc := 14) X (th_da dtX4_elsewhere 9 rfl) rfl g1 e1 ?_
  refine V_aload_n (pc := 15) X (th_da dtX4_elsewhere 10 rfl) rfl ?_
  refine V_getR (pc := 16) (j := 2) (t := 2) X (th_da dtX4_elsewhere 11 rfl) wfl_X4_15 iX4 rfl rfl (Nat.le_of_ble_eq_true rfl) rfl ?_
  refine V_sipush (pc := 19) (v := 443) X (th_da dtX4_elsewhere 12 rfl) (by decide) ?_
  refine V_bipush (pc := 22) (v := 10) X (th_da dtX4_elsewhere 13 rfl) (by decide) ?_
  refine V_iload_n (pc := 24) X (th_da dtX4_elsewhere 14 rfl) rfl ?_
  refine V_imul (pc := 25) X (th_da dtX4_elsewhere 15 rfl) ?_
  refine V_iadd (pc := 26) X (th_da dtX4_elsewhere 16 rfl) ?_
  refine V_iload_n (pc := 27) X (th_da dtX4_elsewhere 17 rfl) rfl ?_
  refine V_iadd (pc := 28) X (th_da dtX4_elsewhere 18 rfl) ?_
  obtain ⟨v2, e2, g2, hf⟩ := th_rd_some hf
  refine V_iald (pc := 29) X (th_da dtX4_elsewhere 19 rfl) rfl g2 e2 ?_
  obtain ⟨u3, h3, e3, hf⟩ := th_bd_some hf
  refine V_callSi (pc := 30) (As := [.int v1, .int v2]) X (th_da dtX4_elsewhere 20 rfl) (mX4_lesser l _ _ _ _ _ e3) wcd_X4_lesser wml_X4_108 wst_X4_lesser win_X4_lesser hd_X4_lesser ⟨Nat.le_of_ble_eq_true rfl, Nat.le_of_ble_eq_true rfl⟩ (Nat.le_of_ble_eq_true rfl) rfl ?_
  exact V_iretF (pc := 33) X (th_da dtX4_elsewhere 21 rfl) hf
end
def fX4_ratesBy_c5 : Nat → Int32 → Int32 → Int64 → Int32 → th_H → Option (Int64 × th_H)
  | 0, _, _, _, _, _ => none
  | n + 1, y1, y2, y3, y5, h =>
    if (y5 < 20 : Prop) then
      th_bd (fX4_goesOver y5 y1 h) fun u2 h2 =>
      if (u2 = 0 : Prop) then
        fX4_ratesBy_c5 n y1 y2 (y3 + 0) (y5 + 1) h2
      else
        th_bd (fX4_elsewhere y5 y1 h2) fun u4 h4 =>
        th_bd (fX4_lesser y2 u4 h4) fun u5 h5 =>
        th_bd (fX4_rate y5 u5 h5) fun u6 h6 =>
        fX4_ratesBy_c5 n y1 y2 (y3 + (Int32.toInt64 u6)) (y5 + 1) h6
    else
      some (y3, h)
def fX4_ratesBy (x1 : Int32) (x2 : Int32) (h : th_H) : Option (Int64 × th_H) :=
  fX4_ratesBy_c5 1000 x1 x2 0 0 h
def tbX4_ratesBy : List (Nat × Instr × Nat) := [(0, .lconst 0, 1), (1, .lstore_n 3, 1), (2, .iconst 0, 1), (3, .istore 5, 2), (5, .iload 5, 2), (7, .bipush 20, 2), (9, .if_icmp .ge 44, 3), (12, .lload_n 3, 1), (13, .aload_n 0, 1), (14, .iload 5, 2), (16, .iload_n 1, 1), (17, .invokevirtual 75, 3), (20, .ifCond .eq 24, 3), (23, .aload_n 0, 1), (24, .iload 5, 2), (26, .iload_n 2, 1), (27, .aload_n 0, 1), (28, .iload 5, 2), (30, .iload_n 1, 1), (31, .invokevirtual 148, 3), (34, .invokestatic 108, 3), (37, .invokevirtual 151, 3), (40, .i2l, 1), (41, .goto 4, 3), (44, .lconst 0, 1), (45, .ladd, 1), (46, .lstore_n 3, 1), (47, .iinc 5 1, 3), (50, .goto (-45), 3), (53, .lload_n 3, 1), (54, .lreturn, 1)]
theorem dtX4_ratesBy : th_dec cX4_ratesBy tbX4_ratesBy = true := by decide +kernel
section
variable {p0 : Program} {l : Launch} {e : Env} {s : State} {m : MethodId} {args : Array Value} {below : List Frame} {meth : Method} {c : Code} {D : va_G} {cI cZ : ClassId} {ad : Nat → Nat} {rr : Int64} {hh : th_H}
set_option maxHeartbeats 4000000 in
set_option maxRecDepth 100000 in
theorem tX4_ratesBy_c5 (X : th_X p0 s m args meth c D cI cZ ad LM 6 RX4 cX4_ratesBy (some .long)) : ∀ (n : Nat) (y1 : Int32) (y2 : Int32) (y3 : Int64) (y5 : Int32) (h : th_H), fX4_ratesBy_c5 n y1 y2 y3 y5 h = some (rr, hh) → th_V p0 l e { frames := 2, cells := 0, slots := 0, locals := 43 } s m args below meth c D cI cZ ad LM 6 (some (.long rr)) hh 5 [.ref 0, .int y1, .int y2, .long y3, .null, .int y5] [] h := by
  intro n
  induction n with
  | zero => intro y1 y2 y3 y5 h hf; cases hf
  | succ n ih =>
    intro y1 y2 y3 y5 h hf
    rw [fX4_ratesBy_c5] at hf
    refine V_iload (pc := 5) X (th_da dtX4_ratesBy 4 rfl) rfl ?_
    refine V_bipush (pc := 7) (v := 20) X (th_da dtX4_ratesBy 5 rfl) (by decide) ?_
    refine V_icmp_ge (pc := 9) (tgt := 53) X (th_da dtX4_ratesBy 6 rfl) (by decide) (fun c1 => ?_) (fun c1 => ?_)
    · rw [if_pos c1] at hf
      refine V_lload_n (pc := 12) X (th_da dtX4_ratesBy 7 rfl) rfl ?_
      refine V_aload_n (pc := 13) X (th_da dtX4_ratesBy 8 rfl) rfl ?_
      refine V_iload (pc := 14) X (th_da dtX4_ratesBy 9 rfl) rfl ?_
      refine V_iload_n (pc := 16) X (th_da dtX4_ratesBy 10 rfl) rfl ?_
      obtain ⟨u2, h2, e2, hf⟩ := th_bd_some hf
      refine V_callVi (pc := 17) (q := 0) (As := [.int y5, .int y1]) X (th_da dtX4_ratesBy 11 rfl) (mX4_goesOver l _ _ _ _ _ e2) wcd_X4_goesOver wml_X4_75 wim_X4_goesOver wse_X4_goesOver win_X4_goesOver hd_X4_goesOver ⟨Nat.le_of_ble_eq_true rfl, Nat.le_of_ble_eq_true rfl⟩ (Nat.le_of_ble_eq_true rfl) rfl rfl rfl ?_
      refine V_if_eq (pc := 20) (tgt := 44) X (th_da dtX4_ratesBy 12 rfl) (by decide) (fun c3 => ?_) (fun c3 => ?_)
      · rw [if_pos c3] at hf
        refine V_lconst (pc := 44) (v := 0) X (th_da dtX4_ratesBy 24 rfl) (by decide) ?_
        refine V_ladd (pc := 45) X (th_da dtX4_ratesBy 25 rfl) ?_
        refine V_lstore_n (pc := 46) (ls2 := [.ref 0, .int y1, .int y2, .long (y3 + 0), .null, .int y5]) X (th_da dtX4_ratesBy 26 rfl) (Nat.le_of_ble_eq_true rfl) rfl rfl ?_
        refine V_iinc (pc := 47) (v := y5 + 1) (ls2 := [.ref 0, .int y1, .int y2, .long (y3 + 0), .null, .int (y5 + 1)]) X (th_da dtX4_ratesBy 27 rfl) rfl rfl (Nat.le_of_ble_eq_true rfl) rfl rfl ?_
        refine V_goto (pc := 50) (tgt := 5) X (th_da dtX4_ratesBy 28 rfl) (by decide) ?_
        exact ih _ _ _ _ _ hf
      · rw [if_neg c3] at hf
        refine V_aload_n (pc := 23) X (th_da dtX4_ratesBy 13 rfl) rfl ?_
        refine V_iload (pc := 24) X (th_da dtX4_ratesBy 14 rfl) rfl ?_
        refine V_iload_n (pc := 26) X (th_da dtX4_ratesBy 15 rfl) rfl ?_
        refine V_aload_n (pc := 27) X (th_da dtX4_ratesBy 16 rfl) rfl ?_
        refine V_iload (pc := 28) X (th_da dtX4_ratesBy 17 rfl) rfl ?_
        refine V_iload_n (pc := 30) X (th_da dtX4_ratesBy 18 rfl) rfl ?_
        obtain ⟨u4, h4, e4, hf⟩ := th_bd_some hf
        refine V_callVi (pc := 31) (q := 0) (As := [.int y5, .int y1]) X (th_da dtX4_ratesBy 19 rfl) (mX4_elsewhere l _ _ _ _ _ e4) wcd_X4_elsewhere wml_X4_148 wim_X4_elsewhere wse_X4_elsewhere win_X4_elsewhere hd_X4_elsewhere ⟨Nat.le_of_ble_eq_true rfl, Nat.le_of_ble_eq_true rfl⟩ (Nat.le_of_ble_eq_true rfl) rfl rfl rfl ?_
        obtain ⟨u5, h5, e5, hf⟩ := th_bd_some hf
        refine V_callSi (pc := 34) (As := [.int y2, .int u4]) X (th_da dtX4_ratesBy 20 rfl) (mX4_lesser l _ _ _ _ _ e5) wcd_X4_lesser wml_X4_108 wst_X4_lesser win_X4_lesser hd_X4_lesser ⟨Nat.le_of_ble_eq_true rfl, Nat.le_of_ble_eq_true rfl⟩ (Nat.le_of_ble_eq_true rfl) rfl ?_
        obtain ⟨u6, h6, e6, hf⟩ := th_bd_some hf
        refine V_callVi (pc := 37) (q := 0) (As := [.int y5, .int u5]) X (th_da dtX4_ratesBy 21 rfl) (mX4_rate l _ _ _ _ _ e6) wcd_X4_rate wml_X4_151 wim_X4_rate wse_X4_rate win_X4_rate hd_X4_rate ⟨Nat.le_of_ble_eq_true rfl, Nat.le_of_ble_eq_true rfl⟩ (Nat.le_of_ble_eq_true rfl) rfl rfl rfl ?_
        refine V_i2l (pc := 40) X (th_da dtX4_ratesBy 22 rfl) ?_
        refine V_goto (pc := 41) (tgt := 45) X (th_da dtX4_ratesBy 23 rfl) (by decide) ?_
        refine V_ladd (pc := 45) X (th_da dtX4_ratesBy 25 rfl) ?_
        refine V_lstore_n (pc := 46) (ls2 := [.ref 0, .int y1, .int y2, .long (y3 + (Int32.toInt64 u6)), .null, .int y5]) X (th_da dtX4_ratesBy 26 rfl) (Nat.le_of_ble_eq_true rfl) rfl rfl ?_
        refine V_iinc (pc := 47) (v := y5 + 1) (ls2 := [.ref 0, .int y1, .int y2, .long (y3 + (Int32.toInt64 u6)), .null, .int (y5 + 1)]) X (th_da dtX4_ratesBy 27 rfl) rfl rfl (Nat.le_of_ble_eq_true rfl) rfl rfl ?_
        refine V_goto (pc := 50) (tgt := 5) X (th_da dtX4_ratesBy 28 rfl) (by decide) ?_
        exact ih _ _ _ _ _ hf
    · rw [if_neg c1] at hf
      refine V_lload_n (pc := 53) X (th_da dtX4_ratesBy 29 rfl) rfl ?_
      exact V_lretF (pc := 54) X (th_da dtX4_ratesBy 30 rfl) hf
set_option maxHeartbeats 4000000 in
set_option maxRecDepth 100000 in
theorem mX4_ratesBy (l : Launch) (x1 : Int32) (x2 : Int32) (h : th_H) (rr : Int64) (hh : th_H) (hf : fX4_ratesBy x1 x2 h = some (rr, hh)) : th_MI l LM yX4_ratesBy cX4_ratesBy 6 (some .long) 2 43 [.ref 0, .int x1, .int x2] h (some (.long rr)) hh := by
  refine th_MI_of (ls := [.ref 0, .int x1, .int x2, .null, .null, .null]) RX4 rfl rfl rfl (Nat.le_of_ble_eq_true rfl) ?_
  intro p0 e s m args below meth c D cI cZ ad X
  unfold fX4_ratesBy at hf
  refine V_lconst (pc := 0) (v := 0) X (th_da dtX4_ratesBy 0 rfl) (by decide) ?_
  refine V_lstore_n (pc := 1) (ls2 := [.ref 0, .int x1, .int x2, .long 0, .null, .null]) X (th_da dtX4_ratesBy 1 rfl) (Nat.le_of_ble_eq_true rfl) rfl rfl ?_
  refine V_iconst (pc := 2) (v := 0) X (th_da dtX4_ratesBy 2 rfl) (by decide) ?_
  refine V_istore (pc := 3) (ls2 := [.ref 0, .int x1, .int x2, .long 0, .null, .int 0]) X (th_da dtX4_ratesBy 3 rfl) (Nat.le_of_ble_eq_true rfl) rfl rfl ?_
  exact tX4_ratesBy_c5 X _ _ _ _ _ _ hf
end
def fX4_advertises_c5 : Nat → Int32 → Int32 → Int32 → th_H → Option (Int32 × th_H)
  | 0, _, _, _, _ => none
  | n + 1, y1, y2, y3, h =>
    if (1 < (y3 - y2) : Prop) then
      th_bd (fX4_ratesBy y1 ((y2 + y3) / 2) h) fun u2 h2 =>
      th_rd h2 2 643 ((3 : Int32) + y1) fun v3 =>
      if (0 < (lg_cmp u2 (Int32.toInt64 v3)) : Prop) then
        fX4_advertises_c5 n y1 y2 ((y2 + y3) / 2) h2
      else
        fX4_advertises_c5 n y1 ((y2 + y3) / 2) y3 h2
    else
      some (y2, h)
def fX4_advertises (x1 : Int32) (h : th_H) : Option (Int32 × th_H) :=
  fX4_advertises_c5 1000 x1 0 1000001 h
def tbX4_advertises : List (Nat × Instr × Nat) := [(0, .iconst 0, 1), (1, .istore_n 2, 1), (2, .ldc 154, 2), (4, .istore_n 3, 1), (5, .iload_n 3, 1), (6, .iload_n 2, 1), (7, .isub, 1), (8, .iconst 1, 1), (9, .if_icmp .le 42, 3), (12, .iload_n 2, 1), (13, .iload_n 3, 1), (14, .iadd, 1), (15, .iconst 2, 1), (16, .idiv, 1), (17, .istore 4, 2), (19, .aload_n 0, 1), (20, .iload_n 1, 1), (21, .iload 4, 2), (23, .invokevirtual 155, 3), (26, .aload_n 0, 1), (27, .getfield 15, 3), (30, .iconst 3, 1), (31, .iload_n 1, 1), (32, .iadd, 1), (33, .iaload, 1), (34, .i2l, 1), (35, .lcmp, 1), (36, .ifCond .gt 9, 3), (39, .iload 4, 2), (41, .istore_n 2, 1), (42, .goto 6, 3), (45, .iload 4, 2), (47, .istore_n 3, 1), (48, .goto (-43), 3), (51, .iload_n 2, 1), (52, .ireturn, 1)]
theorem dtX4_advertises : th_dec cX4_advertises tbX4_advertises = true := by decide +kernel
section
variable {p0 : Program} {l : Launch} {e : Env} {s : State} {m : MethodId} {args : Array Value} {below : List Frame} {meth : Method} {c : Code} {D : va_G} {cI cZ : ClassId} {ad : Nat → Nat} {rr : Int32} {hh : th_H}
set_option maxHeartbeats 4000000 in
set_option maxRecDepth 100000 in
theorem tX4_advertises_c5 (X : th_X p0 s m args meth c D cI cZ ad LM 5 RX4 cX4_advertises (some .int)) : ∀ (n : Nat) (y1 : Int32) (y2 : Int32) (y3 : Int32) (h : th_H), fX4_advertises_c5 n y1 y2 y3 h = some (rr, hh) → th_V p0 l e { frames := 3, cells := 0, slots := 0, locals := 68 } s m args below meth c D cI cZ ad LM 5 (some (.int rr)) hh 5 [.ref 0, .int y1, .int y2, .int y3, .null] [] h := by
  intro n
  induction n with
  | zero => intro y1 y2 y3 h hf; cases hf
  | succ n ih =>
    intro y1 y2 y3 h hf
    rw [fX4_advertises_c5] at hf
    refine V_iload_n (pc := 5) X (th_da dtX4_advertises 4 rfl) rfl ?_
    refine V_iload_n (pc := 6) X (th_da dtX4_advertises 5 rfl) rfl ?_
    refine V_isub (pc := 7) X (th_da dtX4_advertises 6 rfl) ?_
    refine V_iconst (pc := 8) (v := 1) X (th_da dtX4_advertises 7 rfl) (by decide) ?_
    refine V_icmp_le (pc := 9) (tgt := 51) X (th_da dtX4_advertises 8 rfl) (by decide) (fun c1 => ?_) (fun c1 => ?_)
    · rw [if_pos c1] at hf
      refine V_iload_n (pc := 12) X (th_da dtX4_advertises 9 rfl) rfl ?_
      refine V_iload_n (pc := 13) X (th_da dtX4_advertises 10 rfl) rfl ?_
      refine V_iadd (pc := 14) X (th_da dtX4_advertises 11 rfl) ?_
      refine V_iconst (pc := 15) (v := 2) X (th_da dtX4_advertises 12 rfl) (by decide) ?_
      refine V_idiv (pc := 16) X (th_da dtX4_advertises 13 rfl) (by decide) ?_
      refine V_istore (pc := 17) (ls2 := [.ref 0, .int y1, .int y2, .int y3, .int ((y2 + y3) / 2)]) X (th_da dtX4_advertises 14 rfl) (Nat.le_of_ble_eq_true rfl) rfl rfl ?_
      refine V_aload_n (pc := 19) X (th_da dtX4_advertises 15 rfl) rfl ?_
      refine V_iload_n (pc := 20) X (th_da dtX4_advertises 16 rfl) rfl ?_
      refine V_iload (pc := 21) X (th_da dtX4_advertises 17 rfl) rfl ?_
      obtain ⟨u2, h2, e2, hf⟩ := th_bd_some hf
      refine V_callVl (pc := 23) (q := 0) (As := [.int y1, .int ((y2 + y3) / 2)]) X (th_da dtX4_advertises 18 rfl) (mX4_ratesBy l _ _ _ _ _ e2) wcd_X4_ratesBy wml_X4_155 wim_X4_ratesBy wse_X4_ratesBy win_X4_ratesBy hd_X4_ratesBy ⟨Nat.le_of_ble_eq_true rfl, Nat.le_of_ble_eq_true rfl⟩ (Nat.le_of_ble_eq_true rfl) rfl rfl rfl ?_
      refine V_aload_n (pc := 26) X (th_da dtX4_advertises 19 rfl) rfl ?_
      refine V_getR (pc := 27) (j := 2) (t := 2) X (th_da dtX4_advertises 20 rfl) wfl_X4_15 iX4 rfl rfl (Nat.le_of_ble_eq_true rfl) rfl ?_
      refine V_iconst (pc := 30) (v := 3) X (th_da dtX4_advertises 21 rfl) (by decide) ?_
      refine V_iload_n (pc := 31) X (th_da dtX4_advertises 22 rfl) rfl ?_
      refine V_iadd (pc := 32) X (th_da dtX4_advertises 23 rfl) ?_
      obtain ⟨v3, e3, g3, hf⟩ := th_rd_some hf
      refine V_iald (pc := 33) X (th_da dtX4_advertises 24 rfl) rfl g3 e3 ?_
      refine V_i2l (pc := 34) X (th_da dtX4_advertises 25 rfl) ?_
      refine V_lcmp (pc := 35) X (th_da dtX4_advertises 26 rfl) ?_
      refine V_if_gt (pc := 36) (tgt := 45) X (th_da dtX4_advertises 27 rfl) (by decide) (fun c4 => ?_) (fun c4 => ?_)
      · rw [if_pos c4] at hf
        refine V_iload (pc := 45) X (th_da dtX4_advertises 31 rfl) rfl ?_
        refine V_istore_n (pc := 47) (ls2 := [.ref 0, .int y1, .int y2, .int ((y2 + y3) / 2), .int ((y2 + y3) / 2)]) X (th_da dtX4_advertises 32 rfl) (Nat.le_of_ble_eq_true rfl) rfl rfl ?_
        refine V_goto (pc := 48) (tgt := 5) X (th_da dtX4_advertises 33 rfl) (by decide) ?_
        refine V_mask [true, true, true, true, false] (ls2 := [.ref 0, .int y1, .int y2, .int ((y2 + y3) / 2), .null]) rfl ?_
        exact ih _ _ _ _ hf
      · rw [if_neg c4] at hf
        refine V_iload (pc := 39) X (th_da dtX4_advertises 28 rfl) rfl ?_
        refine V_istore_n (pc := 41) (ls2 := [.ref 0, .int y1, .int ((y2 + y3) / 2), .int y3, .int ((y2 + y3) / 2)]) X (th_da dtX4_advertises 29 rfl) (Nat.le_of_ble_eq_true rfl) rfl rfl ?_
        refine V_goto (pc := 42) (tgt := 48) X (th_da dtX4_advertises 30 rfl) (by decide) ?_
        refine V_goto (pc := 48) (tgt := 5) X (th_da dtX4_advertises 33 rfl) (by decide) ?_
        refine V_mask [true, true, true, true, false] (ls2 := [.ref 0, .int y1, .int ((y2 + y3) / 2), .int y3, .null]) rfl ?_
        exact ih _ _ _ _ hf
    · rw [if_neg c1] at hf
      refine V_iload_n (pc := 51) X (th_da dtX4_advertises 34 rfl) rfl ?_
      exact V_iretF (pc := 52) X (th_da dtX4_advertises 35 rfl) hf
set_option maxHeartbeats 4000000 in
set_option maxRecDepth 100000 in
theorem mX4_advertises (l : Launch) (x1 : Int32) (h : th_H) (rr : Int32) (hh : th_H) (hf : fX4_advertises x1 h = some (rr, hh)) : th_MI l LM yX4_advertises cX4_advertises 5 (some .int) 3 68 [.ref 0, .int x1] h (some (.int rr)) hh := by
  refine th_MI_of (ls := [.ref 0, .int x1, .null, .null, .null]) RX4 rfl rfl rfl (Nat.le_of_ble_eq_true rfl) ?_
  intro p0 e s m args below meth c D cI cZ ad X
  unfold fX4_advertises at hf
  refine V_iconst (pc := 0) (v := 0) X (th_da dtX4_advertises 0 rfl) (by decide) ?_
  refine V_istore_n (pc := 1) (ls2 := [.ref 0, .int x1, .int 0, .null, .null]) X (th_da dtX4_advertises 1 rfl) (Nat.le_of_ble_eq_true rfl) rfl rfl ?_
  refine V_ldc (pc := 2) (v := 1000001) X (th_da dtX4_advertises 2 rfl) wco_X4_154 ?_
  refine V_istore_n (pc := 4) (ls2 := [.ref 0, .int x1, .int 0, .int 1000001, .null]) X (th_da dtX4_advertises 3 rfl) (Nat.le_of_ble_eq_true rfl) rfl rfl ?_
  exact tX4_advertises_c5 X _ _ _ _ _ hf
end
def fX4_forth (x1 : Int32) (x2 : Int32) (x3 : Int32) (h : th_H) : Option (Int32 × th_H) :=
  th_wr h 2 643 (((243 : Int32) + ((10 : Int32) * x1)) + x2) x3 fun h1 =>
  th_rd h1 2 643 ((13 : Int32) + x2) fun v2 =>
  if (0 < v2 : Prop) then
    th_rd h1 2 643 ((13 : Int32) + x2) fun v4 =>
    th_wr h1 2 643 ((13 : Int32) + x2) (v4 - 1) fun h5 =>
    th_rd h5 2 643 2 fun v6 =>
    th_wr h5 2 643 2 (v6 + 1) fun h7 =>
    some ((-1), h7)
  else
    th_bd (fX4_advertises x2 h1) fun u8 h8 =>
    th_bd (fX4_lesser x3 u8 h8) fun u9 h9 =>
    some (u9, h9)
def tbX4_forth : List (Nat × Instr × Nat) := [(0, .aload_n 0, 1), (1, .getfield 15, 3), (4, .sipush 243, 3), (7, .bipush 10, 2), (9, .iload_n 1, 1), (10, .imul, 1), (11, .iadd, 1), (12, .iload_n 2, 1), (13, .iadd, 1), (14, .iload_n 3, 1), (15, .iastore, 1), (16, .aload_n 0, 1), (17, .getfield 15, 3), (20, .bipush 13, 2), (22, .iload_n 2, 1), (23, .iadd, 1), (24, .iaload, 1), (25, .ifCond .le 28, 3), (28, .aload_n 0, 1), (29, .getfield 15, 3), (32, .bipush 13, 2), (34, .iload_n 2, 1), (35, .iadd, 1), (36, .dup2, 1), (37, .iaload, 1), (38, .iconst 1, 1), (39, .isub, 1), (40, .iastore, 1), (41, .aload_n 0, 1), (42, .getfield 15, 3), (45, .iconst 2, 1), (46, .dup2, 1), (47, .iaload, 1), (48, .iconst 1, 1), (49, .iadd, 1), (50, .iastore, 1), (51, .iconst (-1), 1), (52, .ireturn, 1), (53, .iload_n 3, 1), (54, .aload_n 0, 1), (55, .iload_n 2, 1), (56, .invokevirtual 159, 3), (59, .invokestatic 108, 3), (62, .ireturn, 1)]
theorem dtX4_forth : th_dec cX4_forth tbX4_forth = true := by decide +kernel
section
variable {p0 : Program} {l : Launch} {e : Env} {s : State} {m : MethodId} {args : Array Value} {below : List Frame} {meth : Method} {c : Code} {D : va_G} {cI cZ : ClassId} {ad : Nat → Nat} {rr : Int32} {hh : th_H}
set_option maxHeartbeats 4000000 in
set_option maxRecDepth 100000 in
theorem mX4_forth (l : Launch) (x1 : Int32) (x2 : Int32) (x3 : Int32) (h : th_H) (rr : Int32) (hh : th_H) (hf : fX4_forth x1 x2 x3 h = some (rr, hh)) : th_MI l LM yX4_forth cX4_forth 4 (some .int) 4 92 [.ref 0, .int x1, .int x2, .int x3] h (some (.int rr)) hh := by
  refine th_MI_of (ls := [.ref 0, .int x1, .int x2, .int x3]) RX4 rfl rfl rfl (Nat.le_of_ble_eq_true rfl) ?_
  intro p0 e s m args below meth c D cI cZ ad X
  unfold fX4_forth at hf
  refine V_aload_n (pc := 0) X (th_da dtX4_forth 0 rfl) rfl ?_
  refine V_getR (pc := 1) (j := 2) (t := 2) X (th_da dtX4_forth 1 rfl) wfl_X4_15 iX4 rfl rfl (Nat.le_of_ble_eq_true rfl) rfl ?_
  refine V_sipush (pc := 4) (v := 243) X (th_da dtX4_forth 2 rfl) (by decide) ?_
  refine V_bipush (pc := 7) (v := 10) X (th_da dtX4_forth 3 rfl) (by decide) ?_
  refine V_iload_n (pc := 9) X (th_da dtX4_forth 4 rfl) rfl ?_
  refine V_imul (pc := 10) X (th_da dtX4_forth 5 rfl) ?_
  refine V_iadd (pc := 11) X (th_da dtX4_forth 6 rfl) ?_
  refine V_iload_n (pc := 12) X (th_da dtX4_forth 7 rfl) rfl ?_
  refine V_iadd (pc := 13) X (th_da dtX4_forth 8 rfl) ?_
  refine V_iload_n (pc := 14) X (th_da dtX4_forth 9 rfl) rfl ?_
  obtain ⟨h1, e1, g1, hf⟩ := th_wr_some hf
  refine V_iast (pc := 15) X (th_da dtX4_forth 10 rfl) rfl g1 e1 ?_
  refine V_aload_n (pc := 16) X (th_da dtX4_forth 11 rfl) rfl ?_
  refine V_getR (pc := 17) (j := 2) (t := 2) X (th_da dtX4_forth 12 rfl) wfl_X4_15 iX4 rfl rfl (Nat.le_of_ble_eq_true rfl) rfl ?_
  refine V_bipush (pc := 20) (v := 13) X (th_da dtX4_forth 13 rfl) (by decide) ?_
  refine V_iload_n (pc := 22) X (th_da dtX4_forth 14 rfl) rfl ?_
  refine V_iadd (pc := 23) X (th_da dtX4_forth 15 rfl) ?_
  obtain ⟨v2, e2, g2, hf⟩ := th_rd_some hf
  refine V_iald (pc := 24) X (th_da dtX4_forth 16 rfl) rfl g2 e2 ?_
  refine V_if_le (pc := 25) (tgt := 53) X (th_da dtX4_forth 17 rfl) (by decide) (fun c3 => ?_) (fun c3 => ?_)
  · rw [if_pos c3] at hf
    refine V_aload_n (pc := 28) X (th_da dtX4_forth 18 rfl) rfl ?_
    refine V_getR (pc := 29) (j := 2) (t := 2) X (th_da dtX4_forth 19 rfl) wfl_X4_15 iX4 rfl rfl (Nat.le_of_ble_eq_true rfl) rfl ?_
    refine V_bipush (pc := 32) (v := 13) X (th_da dtX4_forth 20 rfl) (by decide) ?_
    refine V_iload_n (pc := 34) X (th_da dtX4_forth 21 rfl) rfl ?_
    refine V_iadd (pc := 35) X (th_da dtX4_forth 22 rfl) ?_
    refine V_dup2 (pc := 36) X (th_da dtX4_forth 23 rfl) rfl rfl ?_
    obtain ⟨v4, e4, g4, hf⟩ := th_rd_some hf
    refine V_iald (pc := 37) X (th_da dtX4_forth 24 rfl) rfl g4 e4 ?_
    refine V_iconst (pc := 38) (v := 1) X (th_da dtX4_forth 25 rfl) (by decide) ?_
    refine V_isub (pc := 39) X (th_da dtX4_forth 26 rfl) ?_
    obtain ⟨h5, e5, g5, hf⟩ := th_wr_some hf
    refine V_iast (pc := 40) X (th_da dtX4_forth 27 rfl) rfl g5 e5 ?_
    refine V_aload_n (pc := 41) X (th_da dtX4_forth 28 rfl) rfl ?_
    refine V_getR (pc := 42) (j := 2) (t := 2) X (th_da dtX4_forth 29 rfl) wfl_X4_15 iX4 rfl rfl (Nat.le_of_ble_eq_true rfl) rfl ?_
    refine V_iconst (pc := 45) (v := 2) X (th_da dtX4_forth 30 rfl) (by decide) ?_
    refine V_dup2 (pc := 46) X (th_da dtX4_forth 31 rfl) rfl rfl ?_
    obtain ⟨v6, e6, g6, hf⟩ := th_rd_some hf
    refine V_iald (pc := 47) X (th_da dtX4_forth 32 rfl) rfl g6 e6 ?_
    refine V_iconst (pc := 48) (v := 1) X (th_da dtX4_forth 33 rfl) (by decide) ?_
    refine V_iadd (pc := 49) X (th_da dtX4_forth 34 rfl) ?_
    obtain ⟨h7, e7, g7, hf⟩ := th_wr_some hf
    refine V_iast (pc := 50) X (th_da dtX4_forth 35 rfl) rfl g7 e7 ?_
    refine V_iconst (pc := 51) (v := (-1)) X (th_da dtX4_forth 36 rfl) (by decide) ?_
    exact V_iretF (pc := 52) X (th_da dtX4_forth 37 rfl) hf
  · rw [if_neg c3] at hf
    refine V_iload_n (pc := 53) X (th_da dtX4_forth 38 rfl) rfl ?_
    refine V_aload_n (pc := 54) X (th_da dtX4_forth 39 rfl) rfl ?_
    refine V_iload_n (pc := 55) X (th_da dtX4_forth 40 rfl) rfl ?_
    obtain ⟨u8, h8, e8, hf⟩ := th_bd_some hf
    refine V_callVi (pc := 56) (q := 0) (As := [.int x2]) X (th_da dtX4_forth 41 rfl) (mX4_advertises l _ _ _ _ e8) wcd_X4_advertises wml_X4_159 wim_X4_advertises wse_X4_advertises win_X4_advertises hd_X4_advertises ⟨Nat.le_of_ble_eq_true rfl, Nat.le_of_ble_eq_true rfl⟩ (Nat.le_of_ble_eq_true rfl) rfl rfl rfl ?_
    obtain ⟨u9, h9, e9, hf⟩ := th_bd_some hf
    refine V_callSi (pc := 59) (As := [.int x3, .int u8]) X (th_da dtX4_forth 42 rfl) (mX4_lesser l _ _ _ _ _ e9) wcd_X4_lesser wml_X4_108 wst_X4_lesser win_X4_lesser hd_X4_lesser ⟨Nat.le_of_ble_eq_true rfl, Nat.le_of_ble_eq_true rfl⟩ (Nat.le_of_ble_eq_true rfl) rfl ?_
    exact V_iretF (pc := 62) X (th_da dtX4_forth 43 rfl) hf
end
def fX4_backTo (x1 : Int32) (x2 : Int32) (x3 : Int32) (h : th_H) : Option (Int32 × th_H) :=
  th_wr h 2 643 (((443 : Int32) + ((10 : Int32) * x1)) + x2) x3 fun h1 =>
  th_bd (fX4_advertises x2 h1) fun u2 h2 =>
  th_bd (fX4_lesser x3 u2 h2) fun u3 h3 =>
  some (u3, h3)
def tbX4_backTo : List (Nat × Instr × Nat) := [(0, .aload_n 0, 1), (1, .getfield 15, 3), (4, .sipush 443, 3), (7, .bipush 10, 2), (9, .iload_n 1, 1), (10, .imul, 1), (11, .iadd, 1), (12, .iload_n 2, 1), (13, .iadd, 1), (14, .iload_n 3, 1), (15, .iastore, 1), (16, .iload_n 3, 1), (17, .aload_n 0, 1), (18, .iload_n 2, 1), (19, .invokevirtual 159, 3), (22, .invokestatic 108, 3), (25, .ireturn, 1)]
theorem dtX4_backTo : th_dec cX4_backTo tbX4_backTo = true := by decide +kernel
section
variable {p0 : Program} {l : Launch} {e : Env} {s : State} {m : MethodId} {args : Array Value} {below : List Frame} {meth : Method} {c : Code} {D : va_G} {cI cZ : ClassId} {ad : Nat → Nat} {rr : Int32} {hh : th_H}
set_option maxHeartbeats 4000000 in
set_option maxRecDepth 100000 in
theorem mX4_backTo (l : Launch) (x1 : Int32) (x2 : Int32) (x3 : Int32) (h : th_H) (rr : Int32) (hh : th_H) (hf : fX4_backTo x1 x2 x3 h = some (rr, hh)) : th_MI l LM yX4_backTo cX4_backTo 4 (some .int) 4 92 [.ref 0, .int x1, .int x2, .int x3] h (some (.int rr)) hh := by
  refine th_MI_of (ls := [.ref 0, .int x1, .int x2, .int x3]) RX4 rfl rfl rfl (Nat.le_of_ble_eq_true rfl) ?_
  intro p0 e s m args below meth c D cI cZ ad X
  unfold fX4_backTo at hf
  refine V_aload_n (pc := 0) X (th_da dtX4_backTo 0 rfl) rfl ?_
  refine V_getR (pc := 1) (j := 2) (t := 2) X (th_da dtX4_backTo 1 rfl) wfl_X4_15 iX4 rfl rfl (Nat.le_of_ble_eq_true rfl) rfl ?_
  refine V_sipush (pc := 4) (v := 443) X (th_da dtX4_backTo 2 rfl) (by decide) ?_
  refine V_bipush (pc := 7) (v := 10) X (th_da dtX4_backTo 3 rfl) (by decide) ?_
  refine V_iload_n (pc := 9) X (th_da dtX4_backTo 4 rfl) rfl ?_
  refine V_imul (pc := 10) X (th_da dtX4_backTo 5 rfl) ?_
  refine V_iadd (pc := 11) X (th_da dtX4_backTo 6 rfl) ?_
  refine V_iload_n (pc := 12) X (th_da dtX4_backTo 7 rfl) rfl ?_
  refine V_iadd (pc := 13) X (th_da dtX4_backTo 8 rfl) ?_
  refine V_iload_n (pc := 14) X (th_da dtX4_backTo 9 rfl) rfl ?_
  obtain ⟨h1, e1, g1, hf⟩ := th_wr_some hf
  refine V_iast (pc := 15) X (th_da dtX4_backTo 10 rfl) rfl g1 e1 ?_
  refine V_iload_n (pc := 16) X (th_da dtX4_backTo 11 rfl) rfl ?_
  refine V_aload_n (pc := 17) X (th_da dtX4_backTo 12 rfl) rfl ?_
  refine V_iload_n (pc := 18) X (th_da dtX4_backTo 13 rfl) rfl ?_
  obtain ⟨u2, h2, e2, hf⟩ := th_bd_some hf
  refine V_callVi (pc := 19) (q := 0) (As := [.int x2]) X (th_da dtX4_backTo 14 rfl) (mX4_advertises l _ _ _ _ e2) wcd_X4_advertises wml_X4_159 wim_X4_advertises wse_X4_advertises win_X4_advertises hd_X4_advertises ⟨Nat.le_of_ble_eq_true rfl, Nat.le_of_ble_eq_true rfl⟩ (Nat.le_of_ble_eq_true rfl) rfl rfl rfl ?_
  obtain ⟨u3, h3, e3, hf⟩ := th_bd_some hf
  refine V_callSi (pc := 22) (As := [.int x3, .int u2]) X (th_da dtX4_backTo 15 rfl) (mX4_lesser l _ _ _ _ _ e3) wcd_X4_lesser wml_X4_108 wst_X4_lesser win_X4_lesser hd_X4_lesser ⟨Nat.le_of_ble_eq_true rfl, Nat.le_of_ble_eq_true rfl⟩ (Nat.le_of_ble_eq_true rfl) rfl ?_
  exact V_iretF (pc := 25) X (th_da dtX4_backTo 16 rfl) hf
end
def fX4_sends_c72 : Nat → Int32 → Int32 → Int32 → th_H → Option (Unit × th_H)
  | 0, _, _, _, _ => none
  | n + 1, y1, y2, y3, h =>
    if (y3 < 0 : Prop) then
      some ((), h)
    else
      th_bd (fX4_goesOver y1 y3 h) fun u2 h2 =>
      if (u2 = 0 : Prop) then
        fX4_sends_c72 n y1 y2 (y3 + (-1)) h2
      else
        th_bd (fX4_backTo y1 y3 y2 h2) fun u4 h4 =>
        fX4_sends_c72 n y1 u4 (y3 + (-1)) h4
def fX4_sends_c18 : Nat → Int32 → Int32 → Int32 → th_H → Option (Unit × th_H)
  | 0, _, _, _, _ => none
  | n + 1, y1, y2, y3, h =>
    if (y3 < 10 : Prop) then
      th_bd (fX4_goesOver y1 y3 h) fun u2 h2 =>
      if (u2 = 0 : Prop) then
        fX4_sends_c18 n y1 y2 (y3 + 1) h2
      else
        th_bd (fX4_forth y1 y3 y2 h2) fun u4 h4 =>
        if (u4 = (-1) : Prop) then
          some ((), h4)
        else
          fX4_sends_c18 n y1 u4 (y3 + 1) h4
    else
      th_bd (fX4_at y1 h) fun u6 h6 =>
      th_wr h6 2 643 (u6 + 7) y2 fun h7 =>
      fX4_sends_c72 1000 y1 1000000 9 h7
def fX4_sends (x1 : Int32) (h : th_H) : Option (Unit × th_H) :=
  th_rd h 2 643 0 fun v1 =>
  th_wr h 2 643 0 (v1 + 1) fun h2 =>
  th_bd (fX4_own x1 h2) fun u3 h3 =>
  fX4_sends_c18 1000 x1 u3 0 h3
def tbX4_sends : List (Nat × Instr × Nat) := [(0, .aload_n 0, 1), (1, .getfield 15, 3), (4, .iconst 0, 1), (5, .dup2, 1), (6, .iaload, 1), (7, .iconst 1, 1), (8, .iadd, 1), (9, .iastore, 1), (10, .aload_n 0, 1), (11, .iload_n 1, 1), (12, .invokevirtual 162, 3), (15, .istore_n 2, 1), (16, .iconst 0, 1), (17, .istore_n 3, 1), (18, .iload_n 3, 1), (19, .bipush 10, 2), (21, .if_icmp .ge 32, 3), (24, .aload_n 0, 1), (25, .iload_n 1, 1), (26, .iload_n 3, 1), (27, .invokevirtual 75, 3), (30, .ifCond .eq 17, 3), (33, .aload_n 0, 1), (34, .iload_n 1, 1), (35, .iload_n 3, 1), (36, .iload_n 2, 1), (37, .invokevirtual 165, 3), (40, .istore_n 2, 1), (41, .iload_n 2, 1), (42, .iconst (-1), 1), (43, .if_icmp .ne 4, 3), (46, .return_, 1), (47, .iinc 3 1, 3), (50, .goto (-32), 3), (53, .aload_n 0, 1), (54, .getfield 15, 3), (57, .iload_n 1, 1), (58, .invokestatic 71, 3), (61, .bipush 7, 2), (63, .iadd, 1), (64, .iload_n 2, 1), (65, .iastore, 1), (66, .ldc 93, 2), (68, .istore_n 2, 1), (69, .bipush 9, 2), (71, .istore_n 3, 1), (72, .iload_n 3, 1), (73, .ifCond .lt 26, 3), (76, .aload_n 0, 1), (77, .iload_n 1, 1), (78, .iload_n 3, 1), (79, .invokevirtual 75, 3), (82, .ifCond .eq 11, 3), (85, .aload_n 0, 1), (86, .iload_n 1, 1), (87, .iload_n 3, 1), (88, .iload_n 2, 1), (89, .invokevirtual 169, 3), (92, .istore_n 2, 1), (93, .iinc 3 (-1), 3), (96, .goto (-24), 3), (99, .return_, 1)]
theorem dtX4_sends : th_dec cX4_sends tbX4_sends = true := by decide +kernel
section
variable {p0 : Program} {l : Launch} {e : Env} {s : State} {m : MethodId} {args : Array Value} {below : List Frame} {meth : Method} {c : Code} {D : va_G} {cI cZ : ClassId} {ad : Nat → Nat} {rr : Unit} {hh : th_H}
set_option maxHeartbeats 4000000 in
set_option maxRecDepth 100000 in
theorem tX4_sends_c72 (X : th_X p0 s m args meth c D cI cZ ad LM 4 RX4 cX4_sends none) : ∀ (n : Nat) (y1 : Int32) (y2 : Int32) (y3 : Int32) (h : th_H), fX4_sends_c72 n y1 y2 y3 h = some (rr, hh) → th_V p0 l e { frames := 5, cells := 0, slots := 0, locals := 115 } s m args below meth c D cI cZ ad LM 4 none hh 72 [.ref 0, .int y1, .int y2, .int y3] [] h := by
  intro n
  induction n with
  | zero => intro y1 y2 y3 h hf; cases hf
  | succ n ih =>
    intro y1 y2 y3 h hf
    rw [fX4_sends_c72] at hf
    refine V_iload_n (pc := 72) X (th_da dtX4_sends 46 rfl) rfl ?_
    refine V_if_lt (pc := 73) (tgt := 99) X (th_da dtX4_sends 47 rfl) (by decide) (fun c1 => ?_) (fun c1 => ?_)
    · rw [if_pos c1] at hf
      exact V_vretF (pc := 99) X (th_da dtX4_sends 61 rfl) hf
    · rw [if_neg c1] at hf
      refine V_aload_n (pc := 76) X (th_da dtX4_sends 48 rfl) rfl ?_
      refine V_iload_n (pc := 77) X (th_da dtX4_sends 49 rfl) rfl ?_
      refine V_iload_n (pc := 78) X (th_da dtX4_sends 50 rfl) rfl ?_
      obtain ⟨u2, h2, e2, hf⟩ := th_bd_some hf
      refine V_callVi (pc := 79) (q := 0) (As := [.int y1, .int y3]) X (th_da dtX4_sends 51 rfl) (mX4_goesOver l _ _ _ _ _ e2) wcd_X4_goesOver wml_X4_75 wim_X4_goesOver wse_X4_goesOver win_X4_goesOver hd_X4_goesOver ⟨Nat.le_of_ble_eq_true rfl, Nat.le_of_ble_eq_true rfl⟩ (Nat.le_of_ble_eq_true rfl) rfl rfl rfl ?_
      refine V_if_eq (pc := 82) (tgt := 93) X (th_da dtX4_sends 52 rfl) (by decide) (fun c3 => ?_) (fun c3 => ?_)
      · rw [if_pos c3] at hf
        refine V_iinc (pc := 93) (v := y3 + (-1)) (ls2 := [.ref 0, .int y1, .int y2, .int (y3 + (-1))]) X (th_da dtX4_sends 59 rfl) rfl rfl (Nat.le_of_ble_eq_true rfl) rfl rfl ?_
        refine V_goto (pc := 96) (tgt := 72) X (th_da dtX4_sends 60 rfl) (by decide) ?_
        exact ih _ _ _ _ hf
      · rw [if_neg c3] at hf
        refine V_aload_n (pc := 85) X (th_da dtX4_sends 53 rfl) rfl ?_
        refine V_iload_n (pc := 86) X (th_da dtX4_sends 54 rfl) rfl ?_
        refine V_iload_n (pc := 87) X (th_da dtX4_sends 55 rfl) rfl ?_
        refine V_iload_n (pc := 88) X (th_da dtX4_sends 56 rfl) rfl ?_
        obtain ⟨u4, h4, e4, hf⟩ := th_bd_some hf
        refine V_callVi (pc := 89) (q := 0) (As := [.int y1, .int y3, .int y2]) X (th_da dtX4_sends 57 rfl) (mX4_backTo l _ _ _ _ _ _ e4) wcd_X4_backTo wml_X4_169 wim_X4_backTo wse_X4_backTo win_X4_backTo hd_X4_backTo ⟨Nat.le_of_ble_eq_true rfl, Nat.le_of_ble_eq_true rfl⟩ (Nat.le_of_ble_eq_true rfl) rfl rfl rfl ?_
        refine V_istore_n (pc := 92) (ls2 := [.ref 0, .int y1, .int u4, .int y3]) X (th_da dtX4_sends 58 rfl) (Nat.le_of_ble_eq_true rfl) rfl rfl ?_
        refine V_iinc (pc := 93) (v := y3 + (-1)) (ls2 := [.ref 0, .int y1, .int u4, .int (y3 + (-1))]) X (th_da dtX4_sends 59 rfl) rfl rfl (Nat.le_of_ble_eq_true rfl) rfl rfl ?_
        refine V_goto (pc := 96) (tgt := 72) X (th_da dtX4_sends 60 rfl) (by decide) ?_
        exact ih _ _ _ _ hf
set_option maxHeartbeats 4000000 in
set_option maxRecDepth 100000 in
theorem tX4_sends_c18 (X : th_X p0 s m args meth c D cI cZ ad LM 4 RX4 cX4_sends none) : ∀ (n : Nat) (y1 : Int32) (y2 : Int32) (y3 : Int32) (h : th_H), fX4_sends_c18 n y1 y2 y3 h = some (rr, hh) → th_V p0 l e { frames := 5, cells := 0, slots := 0, locals := 115 } s m args below meth c D cI cZ ad LM 4 none hh 18 [.ref 0, .int y1, .int y2, .int y3] [] h := by
  intro n
  induction n with
  | zero => intro y1 y2 y3 h hf; cases hf
  | succ n ih =>
    intro y1 y2 y3 h hf
    rw [fX4_sends_c18] at hf
    refine V_iload_n (pc := 18) X (th_da dtX4_sends 14 rfl) rfl ?_
    refine V_bipush (pc := 19) (v := 10) X (th_da dtX4_sends 15 rfl) (by decide) ?_
    refine V_icmp_ge (pc := 21) (tgt := 53) X (th_da dtX4_sends 16 rfl) (by decide) (fun c1 => ?_) (fun c1 => ?_)
    · rw [if_pos c1] at hf
      refine V_aload_n (pc := 24) X (th_da dtX4_sends 17 rfl) rfl ?_
      refine V_iload_n (pc := 25) X (th_da dtX4_sends 18 rfl) rfl ?_
      refine V_iload_n (pc := 26) X (th_da dtX4_sends 19 rfl) rfl ?_
      obtain ⟨u2, h2, e2, hf⟩ := th_bd_some hf
      refine V_callVi (pc := 27) (q := 0) (As := [.int y1, .int y3]) X (th_da dtX4_sends 20 rfl) (mX4_goesOver l _ _ _ _ _ e2) wcd_X4_goesOver wml_X4_75 wim_X4_goesOver wse_X4_goesOver win_X4_goesOver hd_X4_goesOver ⟨Nat.le_of_ble_eq_true rfl, Nat.le_of_ble_eq_true rfl⟩ (Nat.le_of_ble_eq_true rfl) rfl rfl rfl ?_
      refine V_if_eq (pc := 30) (tgt := 47) X (th_da dtX4_sends 21 rfl) (by decide) (fun c3 => ?_) (fun c3 => ?_)
      · rw [if_pos c3] at hf
        refine V_iinc (pc := 47) (v := y3 + 1) (ls2 := [.ref 0, .int y1, .int y2, .int (y3 + 1)]) X (th_da dtX4_sends 32 rfl) rfl rfl (Nat.le_of_ble_eq_true rfl) rfl rfl ?_
        refine V_goto (pc := 50) (tgt := 18) X (th_da dtX4_sends 33 rfl) (by decide) ?_
        exact ih _ _ _ _ hf
      · rw [if_neg c3] at hf
        refine V_aload_n (pc := 33) X (th_da dtX4_sends 22 rfl) rfl ?_
        refine V_iload_n (pc := 34) X (th_da dtX4_sends 23 rfl) rfl ?_
        refine V_iload_n (pc := 35) X (th_da dtX4_sends 24 rfl) rfl ?_
        refine V_iload_n (pc := 36) X (th_da dtX4_sends 25 rfl) rfl ?_
        obtain ⟨u4, h4, e4, hf⟩ := th_bd_some hf
        refine V_callVi (pc := 37) (q := 0) (As := [.int y1, .int y3, .int y2]) X (th_da dtX4_sends 26 rfl) (mX4_forth l _ _ _ _ _ _ e4) wcd_X4_forth wml_X4_165 wim_X4_forth wse_X4_forth win_X4_forth hd_X4_forth ⟨Nat.le_of_ble_eq_true rfl, Nat.le_of_ble_eq_true rfl⟩ (Nat.le_of_ble_eq_true rfl) rfl rfl rfl ?_
        refine V_istore_n (pc := 40) (ls2 := [.ref 0, .int y1, .int u4, .int y3]) X (th_da dtX4_sends 27 rfl) (Nat.le_of_ble_eq_true rfl) rfl rfl ?_
        refine V_iload_n (pc := 41) X (th_da dtX4_sends 28 rfl) rfl ?_
        refine V_iconst (pc := 42) (v := (-1)) X (th_da dtX4_sends 29 rfl) (by decide) ?_
        refine V_icmp_ne (pc := 43) (tgt := 47) X (th_da dtX4_sends 30 rfl) (by decide) (fun c5 => ?_) (fun c5 => ?_)
        · rw [if_pos c5] at hf
          exact V_vretF (pc := 46) X (th_da dtX4_sends 31 rfl) hf
        · rw [if_neg c5] at hf
          refine V_iinc (pc := 47) (v := y3 + 1) (ls2 := [.ref 0, .int y1, .int u4, .int (y3 + 1)]) X (th_da dtX4_sends 32 rfl) rfl rfl (Nat.le_of_ble_eq_true rfl) rfl rfl ?_
          refine V_goto (pc := 50) (tgt := 18) X (th_da dtX4_sends 33 rfl) (by decide) ?_
          exact ih _ _ _ _ hf
    · rw [if_neg c1] at hf
      refine V_aload_n (pc := 53) X (th_da dtX4_sends 34 rfl) rfl ?_
      refine V_getR (pc := 54) (j := 2) (t := 2) X (th_da dtX4_sends 35 rfl) wfl_X4_15 iX4 rfl rfl (Nat.le_of_ble_eq_true rfl) rfl ?_
      refine V_iload_n (pc := 57) X (th_da dtX4_sends 36 rfl) rfl ?_
      obtain ⟨u6, h6, e6, hf⟩ := th_bd_some hf
      refine V_callSi (pc := 58) (As := [.int y1]) X (th_da dtX4_sends 37 rfl) (mX4_at l _ _ _ _ e6) wcd_X4_at wml_X4_71 wst_X4_at win_X4_at hd_X4_at ⟨Nat.le_of_ble_eq_true rfl, Nat.le_of_ble_eq_true rfl⟩ (Nat.le_of_ble_eq_true rfl) rfl ?_
      refine V_bipush (pc := 61) (v := 7) X (th_da dtX4_sends 38 rfl) (by decide) ?_
      refine V_iadd (pc := 63) X (th_da dtX4_sends 39 rfl) ?_
      refine V_iload_n (pc := 64) X (th_da dtX4_sends 40 rfl) rfl ?_
      obtain ⟨h7, e7, g7, hf⟩ := th_wr_some hf
      refine V_iast (pc := 65) X (th_da dtX4_sends 41 rfl) rfl g7 e7 ?_
      refine V_ldc (pc := 66) (v := 1000000) X (th_da dtX4_sends 42 rfl) wco_X4_93 ?_
      refine V_istore_n (pc := 68) (ls2 := [.ref 0, .int y1, .int 1000000, .int y3]) X (th_da dtX4_sends 43 rfl) (Nat.le_of_ble_eq_true rfl) rfl rfl ?_
      refine V_bipush (pc := 69) (v := 9) X (th_da dtX4_sends 44 rfl) (by decide) ?_
      refine V_istore_n (pc := 71) (ls2 := [.ref 0, .int y1, .int 1000000, .int 9]) X (th_da dtX4_sends 45 rfl) (Nat.le_of_ble_eq_true rfl) rfl rfl ?_
      exact tX4_sends_c72 X _ _ _ _ _ hf
set_option maxHeartbeats 4000000 in
set_option maxRecDepth 100000 in
theorem mX4_sends (l : Launch) (x1 : Int32) (h : th_H) (rr : Unit) (hh : th_H) (hf : fX4_sends x1 h = some (rr, hh)) : th_MI l LM yX4_sends cX4_sends 4 none 5 115 [.ref 0, .int x1] h none hh := by
  refine th_MI_of (ls := [.ref 0, .int x1, .null, .null]) RX4 rfl rfl rfl (Nat.le_of_ble_eq_true rfl) ?_
  intro p0 e s m args below meth c D cI cZ ad X
  unfold fX4_sends at hf
  refine V_aload_n (pc := 0) X (th_da dtX4_sends 0 rfl) rfl ?_
  refine V_getR (pc := 1) (j := 2) (t := 2) X (th_da dtX4_sends 1 rfl) wfl_X4_15 iX4 rfl rfl (Nat.le_of_ble_eq_true rfl) rfl ?_
  refine V_iconst (pc := 4) (v := 0) X (th_da dtX4_sends 2 rfl) (by decide) ?_
  refine V_dup2 (pc := 5) X (th_da dtX4_sends 3 rfl) rfl rfl ?_
  obtain ⟨v1, e1, g1, hf⟩ := th_rd_some hf
  refine V_iald (pc := 6) X (th_da dtX4_sends 4 rfl) rfl g1 e1 ?_
  refine V_iconst (pc := 7) (v := 1) X (th_da dtX4_sends 5 rfl) (by decide) ?_
  refine V_iadd (pc := 8) X (th_da dtX4_sends 6 rfl) ?_
  obtain ⟨h2, e2, g2, hf⟩ := th_wr_some hf
  refine V_iast (pc := 9) X (th_da dtX4_sends 7 rfl) rfl g2 e2 ?_
  refine V_aload_n (pc := 10) X (th_da dtX4_sends 8 rfl) rfl ?_
  refine V_iload_n (pc := 11) X (th_da dtX4_sends 9 rfl) rfl ?_
  obtain ⟨u3, h3, e3, hf⟩ := th_bd_some hf
  refine V_callVi (pc := 12) (q := 0) (As := [.int x1]) X (th_da dtX4_sends 10 rfl) (mX4_own l _ _ _ _ e3) wcd_X4_own wml_X4_162 wim_X4_own wse_X4_own win_X4_own hd_X4_own ⟨Nat.le_of_ble_eq_true rfl, Nat.le_of_ble_eq_true rfl⟩ (Nat.le_of_ble_eq_true rfl) rfl rfl rfl ?_
  refine V_istore_n (pc := 15) (ls2 := [.ref 0, .int x1, .int u3, .null]) X (th_da dtX4_sends 11 rfl) (Nat.le_of_ble_eq_true rfl) rfl rfl ?_
  refine V_iconst (pc := 16) (v := 0) X (th_da dtX4_sends 12 rfl) (by decide) ?_
  refine V_istore_n (pc := 17) (ls2 := [.ref 0, .int x1, .int u3, .int 0]) X (th_da dtX4_sends 13 rfl) (Nat.le_of_ble_eq_true rfl) rfl rfl ?_
  exact tX4_sends_c18 X _ _ _ _ _ hf
end
def fX4_letter (x1 : Int32) (h : th_H) : Option (Int32 × th_H) :=
  th_st (th_up h 0 0 0) fun h1 =>
  th_bd (fX4_isFlow x1 h1) fun u2 h2 =>
  if (u2 = 0 : Prop) then
    th_bd (fX4_refuse 1 h2) fun u4 h4 =>
    some (u4, h4)
  else
    th_bd (fX4_sends x1 h2) fun _u5 h5 =>
    th_bd (fX4_at x1 h5) fun u6 h6 =>
    th_rd h6 2 643 (u6 + 7) fun v7 =>
    some (v7, h6)
def tbX4_letter : List (Nat × Instr × Nat) := [(0, .aload_n 0, 1), (1, .iconst 0, 1), (2, .putfield 55, 3), (5, .aload_n 0, 1), (6, .iload_n 1, 1), (7, .invokevirtual 125, 3), (10, .ifCond .ne 9, 3), (13, .aload_n 0, 1), (14, .iconst 1, 1), (15, .invokevirtual 88, 3), (18, .ireturn, 1), (19, .aload_n 0, 1), (20, .iload_n 1, 1), (21, .invokevirtual 172, 3), (24, .aload_n 0, 1), (25, .getfield 15, 3), (28, .iload_n 1, 1), (29, .invokestatic 71, 3), (32, .bipush 7, 2), (34, .iadd, 1), (35, .iaload, 1), (36, .ireturn, 1)]
theorem dtX4_letter : th_dec cX4_letter tbX4_letter = true := by decide +kernel
section
variable {p0 : Program} {l : Launch} {e : Env} {s : State} {m : MethodId} {args : Array Value} {below : List Frame} {meth : Method} {c : Code} {D : va_G} {cI cZ : ClassId} {ad : Nat → Nat} {rr : Int32} {hh : th_H}
set_option maxHeartbeats 4000000 in
set_option maxRecDepth 100000 in
theorem mX4_letter (l : Launch) (x1 : Int32) (h : th_H) (rr : Int32) (hh : th_H) (hf : fX4_letter x1 h = some (rr, hh)) : th_MI l LM yX4_letter cX4_letter 2 (some .int) 6 138 [.ref 0, .int x1] h (some (.int rr)) hh := by
  refine th_MI_of (ls := [.ref 0, .int x1]) RX4 rfl rfl rfl (Nat.le_of_ble_eq_true rfl) ?_
  intro p0 e s m args below meth c D cI cZ ad X
  unfold fX4_letter at hf
  refine V_aload_n (pc := 0) X (th_da dtX4_letter 0 rfl) rfl ?_
  refine V_iconst (pc := 1) (v := 0) X (th_da dtX4_letter 1 rfl) (by decide) ?_
  obtain ⟨h1, e1, hf⟩ := th_st_some hf
  refine V_putI (pc := 2) (j := 0) (ty := .int) X (th_da dtX4_letter 2 rfl) wfl_X4_55 iX4 rfl rfl (Nat.le_of_ble_eq_true rfl) rfl tyX4 tyX4_ok nmX4 rfl (tyX4_ok 0 (Nat.le_of_ble_eq_true rfl)) rfl rfl e1 ?_
  refine V_aload_n (pc := 5) X (th_da dtX4_letter 3 rfl) rfl ?_
  refine V_iload_n (pc := 6) X (th_da dtX4_letter 4 rfl) rfl ?_
  obtain ⟨u2, h2, e2, hf⟩ := th_bd_some hf
  refine V_callVi (pc := 7) (q := 0) (As := [.int x1]) X (th_da dtX4_letter 5 rfl) (mX4_isFlow l _ _ _ _ e2) wcd_X4_isFlow wml_X4_125 wim_X4_isFlow wse_X4_isFlow win_X4_isFlow hd_X4_isFlow ⟨Nat.le_of_ble_eq_true rfl, Nat.le_of_ble_eq_true rfl⟩ (Nat.le_of_ble_eq_true rfl) rfl rfl rfl ?_
  refine V_if_ne (pc := 10) (tgt := 19) X (th_da dtX4_letter 6 rfl) (by decide) (fun c3 => ?_) (fun c3 => ?_)
  · rw [if_pos c3] at hf
    refine V_aload_n (pc := 13) X (th_da dtX4_letter 7 rfl) rfl ?_
    refine V_iconst (pc := 14) (v := 1) X (th_da dtX4_letter 8 rfl) (by decide) ?_
    obtain ⟨u4, h4, e4, hf⟩ := th_bd_some hf
    refine V_callVi (pc := 15) (q := 0) (As := [.int 1]) X (th_da dtX4_letter 9 rfl) (mX4_refuse l _ _ _ _ e4) wcd_X4_refuse wml_X4_88 wim_X4_refuse wse_X4_refuse win_X4_refuse hd_X4_refuse ⟨Nat.le_of_ble_eq_true rfl, Nat.le_of_ble_eq_true rfl⟩ (Nat.le_of_ble_eq_true rfl) rfl rfl rfl ?_
    exact V_iretF (pc := 18) X (th_da dtX4_letter 10 rfl) hf
  · rw [if_neg c3] at hf
    refine V_aload_n (pc := 19) X (th_da dtX4_letter 11 rfl) rfl ?_
    refine V_iload_n (pc := 20) X (th_da dtX4_letter 12 rfl) rfl ?_
    obtain ⟨u5, h5, e5, hf⟩ := th_bd_some hf
    refine V_callVv (pc := 21) (q := 0) (As := [.int x1]) X (th_da dtX4_letter 13 rfl) (mX4_sends l _ _ _ _ e5) wcd_X4_sends wml_X4_172 wim_X4_sends wse_X4_sends win_X4_sends hd_X4_sends ⟨Nat.le_of_ble_eq_true rfl, Nat.le_of_ble_eq_true rfl⟩ (Nat.le_of_ble_eq_true rfl) rfl rfl rfl ?_
    refine V_aload_n (pc := 24) X (th_da dtX4_letter 14 rfl) rfl ?_
    refine V_getR (pc := 25) (j := 2) (t := 2) X (th_da dtX4_letter 15 rfl) wfl_X4_15 iX4 rfl rfl (Nat.le_of_ble_eq_true rfl) rfl ?_
    refine V_iload_n (pc := 28) X (th_da dtX4_letter 16 rfl) rfl ?_
    obtain ⟨u6, h6, e6, hf⟩ := th_bd_some hf
    refine V_callSi (pc := 29) (As := [.int x1]) X (th_da dtX4_letter 17 rfl) (mX4_at l _ _ _ _ e6) wcd_X4_at wml_X4_71 wst_X4_at win_X4_at hd_X4_at ⟨Nat.le_of_ble_eq_true rfl, Nat.le_of_ble_eq_true rfl⟩ (Nat.le_of_ble_eq_true rfl) rfl ?_
    refine V_bipush (pc := 32) (v := 7) X (th_da dtX4_letter 18 rfl) (by decide) ?_
    refine V_iadd (pc := 34) X (th_da dtX4_letter 19 rfl) ?_
    obtain ⟨v7, e7, g7, hf⟩ := th_rd_some hf
    refine V_iald (pc := 35) X (th_da dtX4_letter 20 rfl) rfl g7 e7 ?_
    exact V_iretF (pc := 36) X (th_da dtX4_letter 21 rfl) hf
end
def fX4_nextLink_c32 (y4 : Int32) (h : th_H) : Option (Int32 × th_H) :=
  th_bd (fX4_isLink y4 h) fun u1 h1 =>
  if (u1 = 0 : Prop) then
    some ((-1), h1)
  else
    some (y4, h1)
def fX4_nextLink_c5 : Nat → Int32 → Int32 → Int32 → th_H → Option (Int32 × th_H)
  | 0, _, _, _, _ => none
  | n + 1, y1, y3, y4, h =>
    th_bd (fX4_isLink y4 h) fun u1 h1 =>
    if (u1 = 0 : Prop) then
      fX4_nextLink_c32 y4 h1
    else
      th_bd (fX4_goesOver y1 y4 h1) fun u3 h3 =>
      if (u3 = 0 : Prop) then
        fX4_nextLink_c5 n y1 y3 (y4 + y3) h3
      else
        fX4_nextLink_c32 y4 h3
def fX4_nextLink (x1 : Int32) (x2 : Int32) (x3 : Int32) (h : th_H) : Option (Int32 × th_H) :=
  fX4_nextLink_c5 1000 x1 x3 (x2 + x3) h
def tbX4_nextLink : List (Nat × Instr × Nat) := [(0, .iload_n 2, 1), (1, .iload_n 3, 1), (2, .iadd, 1), (3, .istore 4, 2), (5, .iload 4, 2), (7, .invokestatic 82, 3), (10, .ifCond .eq 22, 3), (13, .aload_n 0, 1), (14, .iload_n 1, 1), (15, .iload 4, 2), (17, .invokevirtual 75, 3), (20, .ifCond .ne 12, 3), (23, .iload 4, 2), (25, .iload_n 3, 1), (26, .iadd, 1), (27, .istore 4, 2), (29, .goto (-24), 3), (32, .iload 4, 2), (34, .invokestatic 82, 3), (37, .ifCond .eq 8, 3), (40, .iload 4, 2), (42, .goto 4, 3), (45, .iconst (-1), 1), (46, .ireturn, 1)]
theorem dtX4_nextLink : th_dec cX4_nextLink tbX4_nextLink = true := by decide +kernel
section
variable {p0 : Program} {l : Launch} {e : Env} {s : State} {m : MethodId} {args : Array Value} {below : List Frame} {meth : Method} {c : Code} {D : va_G} {cI cZ : ClassId} {ad : Nat → Nat} {rr : Int32} {hh : th_H}
set_option maxHeartbeats 4000000 in
set_option maxRecDepth 100000 in
theorem tX4_nextLink_c32 (X : th_X p0 s m args meth c D cI cZ ad LM 5 RX4 cX4_nextLink (some .int)) (y4 : Int32) (h : th_H) (hf : fX4_nextLink_c32 y4 h = some (rr, hh)) : th_V p0 l e { frames := 2, cells := 0, slots := 0, locals := 45 } s m args below meth c D cI cZ ad LM 5 (some (.int rr)) hh 32 [.null, .null, .null, .null, .int y4] [] h := by
  unfold fX4_nextLink_c32 at hf
  refine V_iload (pc := 32) X (th_da dtX4_nextLink 17 rfl) rfl ?_
  obtain ⟨u1, h1, e1, hf⟩ := th_bd_some hf
  refine V_callSi (pc := 34) (As := [.int y4]) X (th_da dtX4_nextLink 18 rfl) (mX4_isLink l _ _ _ _ e1) wcd_X4_isLink wml_X4_82 wst_X4_isLink win_X4_isLink hd_X4_isLink ⟨Nat.le_of_ble_eq_true rfl, Nat.le_of_ble_eq_true rfl⟩ (Nat.le_of_ble_eq_true rfl) rfl ?_
  refine V_if_eq (pc := 37) (tgt := 45) X (th_da dtX4_nextLink 19 rfl) (by decide) (fun c2 => ?_) (fun c2 => ?_)
  · rw [if_pos c2] at hf
    refine V_iconst (pc := 45) (v := (-1)) X (th_da dtX4_nextLink 22 rfl) (by decide) ?_
    exact V_iretF (pc := 46) X (th_da dtX4_nextLink 23 rfl) hf
  · rw [if_neg c2] at hf
    refine V_iload (pc := 40) X (th_da dtX4_nextLink 20 rfl) rfl ?_
    refine V_goto (pc := 42) (tgt := 46) X (th_da dtX4_nextLink 21 rfl) (by decide) ?_
    exact V_iretF (pc := 46) X (th_da dtX4_nextLink 23 rfl) hf
set_option maxHeartbeats 4000000 in
set_option maxRecDepth 100000 in
theorem tX4_nextLink_c5 (X : th_X p0 s m args meth c D cI cZ ad LM 5 RX4 cX4_nextLink (some .int)) : ∀ (n : Nat) (y1 : Int32) (y3 : Int32) (y4 : Int32) (h : th_H), fX4_nextLink_c5 n y1 y3 y4 h = some (rr, hh) → th_V p0 l e { frames := 2, cells := 0, slots := 0, locals := 45 } s m args below meth c D cI cZ ad LM 5 (some (.int rr)) hh 5 [.ref 0, .int y1, .null, .int y3, .int y4] [] h := by
  intro n
  induction n with
  | zero => intro y1 y3 y4 h hf; cases hf
  | succ n ih =>
    intro y1 y3 y4 h hf
    rw [fX4_nextLink_c5] at hf
    refine V_iload (pc := 5) X (th_da dtX4_nextLink 4 rfl) rfl ?_
    obtain ⟨u1, h1, e1, hf⟩ := th_bd_some hf
    refine V_callSi (pc := 7) (As := [.int y4]) X (th_da dtX4_nextLink 5 rfl) (mX4_isLink l _ _ _ _ e1) wcd_X4_isLink wml_X4_82 wst_X4_isLink win_X4_isLink hd_X4_isLink ⟨Nat.le_of_ble_eq_true rfl, Nat.le_of_ble_eq_true rfl⟩ (Nat.le_of_ble_eq_true rfl) rfl ?_
    refine V_if_eq (pc := 10) (tgt := 32) X (th_da dtX4_nextLink 6 rfl) (by decide) (fun c2 => ?_) (fun c2 => ?_)
    · rw [if_pos c2] at hf
      refine V_mask [false, false, false, false, true] (ls2 := [.null, .null, .null, .null, .int y4]) rfl ?_
      exact tX4_nextLink_c32 X _ _ hf
    · rw [if_neg c2] at hf
      refine V_aload_n (pc := 13) X (th_da dtX4_nextLink 7 rfl) rfl ?_
      refine V_iload_n (pc := 14) X (th_da dtX4_nextLink 8 rfl) rfl ?_
      refine V_iload (pc := 15) X (th_da dtX4_nextLink 9 rfl) rfl ?_
      obtain ⟨u3, h3, e3, hf⟩ := th_bd_some hf
      refine V_callVi (pc := 17) (q := 0) (As := [.int y1, .int y4]) X (th_da dtX4_nextLink 10 rfl) (mX4_goesOver l _ _ _ _ _ e3) wcd_X4_goesOver wml_X4_75 wim_X4_goesOver wse_X4_goesOver win_X4_goesOver hd_X4_goesOver ⟨Nat.le_of_ble_eq_true rfl, Nat.le_of_ble_eq_true rfl⟩ (Nat.le_of_ble_eq_true rfl) rfl rfl rfl ?_
      refine V_if_ne (pc := 20) (tgt := 32) X (th_da dtX4_nextLink 11 rfl) (by decide) (fun c4 => ?_) (fun c4 => ?_)
      · rw [if_pos c4] at hf
        refine V_iload (pc := 23) X (th_da dtX4_nextLink 12 rfl) rfl ?_
        refine V_iload_n (pc := 25) X (th_da dtX4_nextLink 13 rfl) rfl ?_
        refine V_iadd (pc := 26) X (th_da dtX4_nextLink 14 rfl) ?_
        refine V_istore (pc := 27) (ls2 := [.ref 0, .int y1, .null, .int y3, .int (y4 + y3)]) X (th_da dtX4_nextLink 15 rfl) (Nat.le_of_ble_eq_true rfl) rfl rfl ?_
        refine V_goto (pc := 29) (tgt := 5) X (th_da dtX4_nextLink 16 rfl) (by decide) ?_
        exact ih _ _ _ _ hf
      · rw [if_neg c4] at hf
        refine V_mask [false, false, false, false, true] (ls2 := [.null, .null, .null, .null, .int y4]) rfl ?_
        exact tX4_nextLink_c32 X _ _ hf
set_option maxHeartbeats 4000000 in
set_option maxRecDepth 100000 in
theorem mX4_nextLink (l : Launch) (x1 : Int32) (x2 : Int32) (x3 : Int32) (h : th_H) (rr : Int32) (hh : th_H) (hf : fX4_nextLink x1 x2 x3 h = some (rr, hh)) : th_MI l LM yX4_nextLink cX4_nextLink 5 (some .int) 2 45 [.ref 0, .int x1, .int x2, .int x3] h (some (.int rr)) hh := by
  refine th_MI_of (ls := [.ref 0, .int x1, .int x2, .int x3, .null]) RX4 rfl rfl rfl (Nat.le_of_ble_eq_true rfl) ?_
  intro p0 e s m args below meth c D cI cZ ad X
  unfold fX4_nextLink at hf
  refine V_iload_n (pc := 0) X (th_da dtX4_nextLink 0 rfl) rfl ?_
  refine V_iload_n (pc := 1) X (th_da dtX4_nextLink 1 rfl) rfl ?_
  refine V_iadd (pc := 2) X (th_da dtX4_nextLink 2 rfl) ?_
  refine V_istore (pc := 3) (ls2 := [.ref 0, .int x1, .int x2, .int x3, .int (x2 + x3)]) X (th_da dtX4_nextLink 3 rfl) (Nat.le_of_ble_eq_true rfl) rfl rfl ?_
  refine V_mask [true, true, false, true, true] (ls2 := [.ref 0, .int x1, .null, .int x3, .int (x2 + x3)]) rfl ?_
  exact tX4_nextLink_c5 X _ _ _ _ _ hf
end
def fX4_hop_c86 (y1 : Int32) (y2 : Int32) (h : th_H) : Option (Int32 × th_H) :=
  th_rd h 2 643 (y2 + 9) fun v1 =>
  th_rd h 2 643 (y2 + 8) fun v2 =>
  if (v2 = 2 : Prop) then
    th_rd h 2 643 (y2 + 10) fun v4 =>
    th_bd (fX4_backTo y1 v1 v4 h) fun u5 h5 =>
    th_wr h5 2 643 (y2 + 10) u5 fun h6 =>
    th_bd (fX4_nextLink y1 v1 (-1) h6) fun u7 h7 =>
    th_wr h7 2 643 (y2 + 9) u7 fun h8 =>
    th_rd h8 2 643 (y2 + 9) fun v9 =>
    if (v9 = (-1) : Prop) then
      th_wr h8 2 643 (y2 + 8) 0 fun h11 =>
      some ((20 : Int32) + v1, h11)
    else
      th_wr h8 2 643 (y2 + 8) 2 fun h12 =>
      some ((20 : Int32) + v1, h12)
  else
    th_rd h 2 643 (y2 + 10) fun v13 =>
    th_bd (fX4_forth y1 v1 v13 h) fun u14 h14 =>
    if (u14 = (-1) : Prop) then
      th_wr h14 2 643 (y2 + 8) 0 fun h16 =>
      some ((50 : Int32) + v1, h16)
    else
      th_wr h14 2 643 (y2 + 10) u14 fun h17 =>
      th_bd (fX4_nextLink y1 v1 1 h17) fun u18 h18 =>
      th_wr h18 2 643 (y2 + 9) u18 fun h19 =>
      th_rd h19 2 643 (y2 + 9) fun v20 =>
      if (v20 = (-1) : Prop) then
        th_wr h19 2 643 (y2 + 7) u14 fun h22 =>
        th_wr h22 2 643 (y2 + 8) 2 fun h23 =>
        th_wr h23 2 643 (y2 + 9) v1 fun h24 =>
        th_wr h24 2 643 (y2 + 10) 1000000 fun h25 =>
        some (v1, h25)
      else
        some (v1, h19)
def fX4_hop (x1 : Int32) (h : th_H) : Option (Int32 × th_H) :=
  th_st (th_up h 0 0 0) fun h1 =>
  th_bd (fX4_isFlow x1 h1) fun u2 h2 =>
  if (u2 = 0 : Prop) then
    th_bd (fX4_refuse 1 h2) fun u4 h4 =>
    some (u4, h4)
  else
    th_bd (fX4_at x1 h2) fun u5 h5 =>
    th_rd h5 2 643 (u5 + 8) fun v6 =>
    if (v6 = 0 : Prop) then
      th_rd h5 2 643 0 fun v8 =>
      th_wr h5 2 643 0 (v8 + 1) fun h9 =>
      th_wr h9 2 643 (u5 + 8) 1 fun h10 =>
      th_bd (fX4_nextLink x1 (-1) 1 h10) fun u11 h11 =>
      th_wr h11 2 643 (u5 + 9) u11 fun h12 =>
      th_bd (fX4_own x1 h12) fun u13 h13 =>
      th_wr h13 2 643 (u5 + 10) u13 fun h14 =>
      fX4_hop_c86 x1 u5 h14
    else
      fX4_hop_c86 x1 u5 h5
def tbX4_hop : List (Nat × Instr × Nat) := [(0, .aload_n 0, 1), (1, .iconst 0, 1), (2, .putfield 55, 3), (5, .aload_n 0, 1), (6, .iload_n 1, 1), (7, .invokevirtual 125, 3), (10, .ifCond .ne 9, 3), (13, .aload_n 0, 1), (14, .iconst 1, 1), (15, .invokevirtual 88, 3), (18, .ireturn, 1), (19, .iload_n 1, 1), (20, .invokestatic 71, 3), (23, .istore_n 2, 1), (24, .aload_n 0, 1), (25, .getfield 15, 3), (28, .iload_n 2, 1), (29, .bipush 8, 2), (31, .iadd, 1), (32, .iaload, 1), (33, .ifCond .ne 53, 3), (36, .aload_n 0, 1), (37, .getfield 15, 3), (40, .iconst 0, 1), (41, .dup2, 1), (42, .iaload, 1), (43, .iconst 1, 1), (44, .iadd, 1), (45, .iastore, 1), (46, .aload_n 0, 1), (47, .getfield 15, 3), (50, .iload_n 2, 1), (51, .bipush 8, 2), (53, .iadd, 1), (54, .iconst 1, 1), (55, .iastore, 1), (56, .aload_n 0, 1), (57, .getfield 15, 3), (60, .iload_n 2, 1), (61, .bipush 9, 2), (63, .iadd, 1), (64, .aload_n 0, 1), (65, .iload_n 1, 1), (66, .iconst (-1), 1), (67, .iconst 1, 1), (68, .invokevirtual 176, 3), (71, .iastore, 1), (72, .aload_n 0, 1), (73, .getfield 15, 3), (76, .iload_n 2, 1), (77, .bipush 10, 2), (79, .iadd, 1), (80, .aload_n 0, 1), (81, .iload_n 1, 1), (82, .invokevirtual 162, 3), (85, .iastore, 1), (86, .aload_n 0, 1), (87, .getfield 15, 3), (90, .iload_n 2, 1), (91, .bipush 9, 2), (93, .iadd, 1), (94, .iaload, 1), (95, .istore_n 3, 1), (96, .aload_n 0, 1), (97, .getfield 15, 3), (100, .iload_n 2, 1), (101, .bipush 8, 2), (103, .iadd, 1), (104, .iaload, 1), (105, .iconst 2, 1), (106, .if_icmp .ne 75, 3), (109, .aload_n 0, 1), (110, .getfield 15, 3), (113, .iload_n 2, 1), (114, .bipush 10, 2), (116, .iadd, 1), (117, .aload_n 0, 1), (118, .iload_n 1, 1), (119, .iload_n 3, 1), (120, .aload_n 0, 1), (121, .getfield 15, 3), (124, .iload_n 2, 1), (125, .bipush 10, 2), (127, .iadd, 1), (128, .iaload, 1), (129, .invokevirtual 169, 3), (132, .iastore, 1), (133, .aload_n 0, 1), (134, .getfield 15, 3), (137, .iload_n 2, 1), (138, .bipush 9, 2), (140, .iadd, 1), (141, .aload_n 0, 1), (142, .iload_n 1, 1), (143, .iload_n 3, 1), (144, .iconst (-1), 1), (145, .invokevirtual 176, 3), (148, .iastore, 1), (149, .aload_n 0, 1), (150, .getfield 15, 3), (153, .iload_n 2, 1), (154, .bipush 8, 2), (156, .iadd, 1), (157, .aload_n 0, 1), (158, .getfield 15, 3), (161, .iload_n 2, 1), (162, .bipush 9, 2), (164, .iadd, 1), (165, .iaload, 1), (166, .iconst (-1), 1), (167, .if_icmp .ne 7, 3), (170, .iconst 0, 1), (171, .goto 4, 3), (174, .iconst 2, 1), (175, .iastore, 1), (176, .bipush 20, 2), (178, .iload_n 3, 1), (179, .iadd, 1), (180, .ireturn, 1), (181, .aload_n 0, 1), (182, .iload_n 1, 1), (183, .iload_n 3, 1), (184, .aload_n 0, 1), (185, .getfield 15, 3), (188, .iload_n 2, 1), (189, .bipush 10, 2), (191, .iadd, 1), (192, .iaload, 1), (193, .invokevirtual 165, 3), (196, .istore 4, 2), (198, .iload 4, 2), (200, .iconst (-1), 1), (201, .if_icmp .ne 18, 3), (204, .aload_n 0, 1), (205, .getfield 15, 3), (208, .iload_n 2, 1), (209, .bipush 8, 2), (211, .iadd, 1), (212, .iconst 0, 1), (213, .iastore, 1), (214, .bipush 50, 2), (216, .iload_n 3, 1), (217, .iadd, 1), (218, .ireturn, 1), (219, .aload_n 0, 1), (220, .getfield 15, 3), (223, .iload_n 2, 1), (224, .bipush 10, 2), (226, .iadd, 1), (227, .iload 4, 2), (229, .iastore, 1), (230, .aload_n 0, 1), (231, .getfield 15, 3), (234, .iload_n 2, 1), (235, .bipush 9, 2), (237, .iadd, 1), (238, .aload_n 0, 1), (239, .iload_n 1, 1), (240, .iload_n 3, 1), (241, .iconst 1, 1), (242, .invokevirtual 176, 3), (245, .iastore, 1), (246, .aload_n 0, 1), (247, .getfield 15, 3), (250, .iload_n 2, 1), (251, .bipush 9, 2), (253, .iadd, 1), (254, .iaload, 1), (255, .iconst (-1), 1), (256, .if_icmp .ne 45, 3), (259, .aload_n 0, 1), (260, .getfield 15, 3), (263, .iload_n 2, 1), (264, .bipush 7, 2), (266, .iadd, 1), (267, .iload 4, 2), (269, .iastore, 1), (270, .aload_n 0, 1), (271, .getfield 15, 3), (274, .iload_n 2, 1), (275, .bipush 8, 2), (277, .iadd, 1), (278, .iconst 2, 1), (279, .iastore, 1), (280, .aload_n 0, 1), (281, .getfield 15, 3), (284, .iload_n 2, 1), (285, .bipush 9, 2), (287, .iadd, 1), (288, .iload_n 3, 1), (289, .iastore, 1), (290, .aload_n 0, 1), (291, .getfield 15, 3), (294, .iload_n 2, 1), (295, .bipush 10, 2), (297, .iadd, 1), (298, .ldc 93, 2), (300, .iastore, 1), (301, .iload_n 3, 1), (302, .ireturn, 1)]
theorem dtX4_hop : th_dec cX4_hop tbX4_hop = true := by decide +kernel
section
variable {p0 : Program} {l : Launch} {e : Env} {s : State} {m : MethodId} {args : Array Value} {below : List Frame} {meth : Method} {c : Code} {D : va_G} {cI cZ : ClassId} {ad : Nat → Nat} {rr : Int32} {hh : th_H}
set_option maxHeartbeats 4000000 in
set_option maxRecDepth 100000 in
theorem tX4_hop_c86 (X : th_X p0 s m args meth c D cI cZ ad LM 5 RX4 cX4_hop (some .int)) (y1 : Int32) (y2 : Int32) (h : th_H) (hf : fX4_hop_c86 y1 y2 h = some (rr, hh)) : th_V p0 l e { frames := 5, cells := 0, slots := 0, locals := 115 } s m args below meth c D cI cZ ad LM 5 (some (.int rr)) hh 86 [.ref 0, .int y1, .int y2, .null, .null] [] h := by
  unfold fX4_hop_c86 at hf
  refine V_aload_n (pc := 86) X (th_da dtX4_hop 56 rfl) rfl ?_
  refine V_getR (pc := 87) (j := 2) (t := 2) X (th_da dtX4_hop 57 rfl) wfl_X4_15 iX4 rfl rfl (Nat.le_of_ble_eq_true rfl) rfl ?_
  refine V_iload_n (pc := 90) X (th_da dtX4_hop 58 rfl) rfl ?_
  refine V_bipush (pc := 91) (v := 9) X (th_da dtX4_hop 59 rfl) (by decide) ?_
  refine V_iadd (pc := 93) X (th_da dtX4_hop 60 rfl) ?_
  obtain ⟨v1, e1, g1, hf⟩ := th_rd_some hf
  refine V_iald (pc := 94) X (th_da dtX4_hop 61 rfl) rfl g1 e1 ?_
  refine V_istore_n (pc := 95) (ls2 := [.ref 0, .int y1, .int y2, .int v1, .null]) X (th_da dtX4_hop 62 rfl) (Nat.le_of_ble_eq_true rfl) rfl rfl ?_
  refine V_aload_n (pc := 96) X (th_da dtX4_hop 63 rfl) rfl ?_
  refine V_getR (pc := 97) (j := 2) (t := 2) X (th_da dtX4_hop 64 rfl) wfl_X4_15 iX4 rfl rfl (Nat.le_of_ble_eq_true rfl) rfl ?_
  refine V_iload_n (pc := 100) X (th_da dtX4_hop 65 rfl) rfl ?_
  refine V_bipush (pc := 101) (v := 8) X (th_da dtX4_hop 66 rfl) (by decide) ?_
  refine V_iadd (pc := 103) X (th_da dtX4_hop 67 rfl) ?_
  obtain ⟨v2, e2, g2, hf⟩ := th_rd_some hf
  refine V_iald (pc := 104) X (th_da dtX4_hop 68 rfl) rfl g2 e2 ?_
  refine V_iconst (pc := 105) (v := 2) X (th_da dtX4_hop 69 rfl) (by decide) ?_
  refine V_icmp_ne (pc := 106) (tgt := 181) X (th_da dtX4_hop 70 rfl) (by decide) (fun c3 => ?_) (fun c3 => ?_)
  · rw [if_pos c3] at hf
    refine V_aload_n (pc := 109) X (th_da dtX4_hop 71 rfl) rfl ?_
    refine V_getR (pc := 110) (j := 2) (t := 2) X (th_da dtX4_hop 72 rfl) wfl_X4_15 iX4 rfl rfl (Nat.le_of_ble_eq_true rfl) rfl ?_
    refine V_iload_n (pc := 113) X (th_da dtX4_hop 73 rfl) rfl ?_
    refine V_bipush (pc := 114) (v := 10) X (th_da dtX4_hop 74 rfl) (by decide) ?_
    refine V_iadd (pc := 116) X (th_da dtX4_hop 75 rfl) ?_
    refine V_aload_n (pc := 117) X (th_da dtX4_hop 76 rfl) rfl ?_
    refine V_iload_n (pc := 118) X (th_da dtX4_hop 77 rfl) rfl ?_
    refine V_iload_n (pc := 119) X (th_da dtX4_hop 78 rfl) rfl ?_
    refine V_aload_n (pc := 120) X (th_da dtX4_hop 79 rfl) rfl ?_
    refine V_getR (pc := 121) (j := 2) (t := 2) X (th_da dtX4_hop 80 rfl) wfl_X4_15 iX4 rfl rfl (Nat.le_of_ble_eq_true rfl) rfl ?_
    refine V_iload_n (pc := 124) X (th_da dtX4_hop 81 rfl) rfl ?_
    refine V_bipush (pc := 125) (v := 10) X (th_da dtX4_hop 82 rfl) (by decide) ?_
    refine V_iadd (pc := 127) X (th_da dtX4_hop 83 rfl) ?_
    obtain ⟨v4, e4, g4, hf⟩ := th_rd_some hf
    refine V_iald (pc := 128) X (th_da dtX4_hop 84 rfl) rfl g4 e4 ?_
    obtain ⟨u5, h5, e5, hf⟩ := th_bd_some hf
    refine V_callVi (pc := 129) (q := 0) (As := [.int y1, .int v1, .int v4]) X (th_da dtX4_hop 85 rfl) (mX4_backTo l _ _ _ _ _ _ e5) wcd_X4_backTo wml_X4_169 wim_X4_backTo wse_X4_backTo win_X4_backTo hd_X4_backTo ⟨Nat.le_of_ble_eq_true rfl, Nat.le_of_ble_eq_true rfl⟩ (Nat.le_of_ble_eq_true rfl) rfl rfl rfl ?_
    obtain ⟨h6, e6, g6, hf⟩ := th_wr_some hf
    refine V_iast (pc := 132) X (th_da dtX4_hop 86 rfl) rfl g6 e6 ?_
    refine V_aload_n (pc := 133) X (th_da dtX4_hop 87 rfl) rfl ?_
    refine V_getR (pc := 134) (j := 2) (t := 2) X (th_da dtX4_hop 88 rfl) wfl_X4_15 iX4 rfl rfl (Nat.le_of_ble_eq_true rfl) rfl ?_
    refine V_iload_n (pc := 137) X (th_da dtX4_hop 89 rfl) rfl ?_
    refine V_bipush (pc := 138) (v := 9) X (th_da dtX4_hop 90 rfl) (by decide) ?_
    refine V_iadd (pc := 140) X (th_da dtX4_hop 91 rfl) ?_
    refine V_aload_n (pc := 141) X (th_da dtX4_hop 92 rfl) rfl ?_
    refine V_iload_n (pc := 142) X (th_da dtX4_hop 93 rfl) rfl ?_
    refine V_iload_n (pc := 143) X (th_da dtX4_hop 94 rfl) rfl ?_
    refine V_iconst (pc := 144) (v := (-1)) X (th_da dtX4_hop 95 rfl) (by decide) ?_
    obtain ⟨u7, h7, e7, hf⟩ := th_bd_some hf
    refine V_callVi (pc := 145) (q := 0) (As := [.int y1, .int v1, .int (-1)]) X (th_da dtX4_hop 96 rfl) (mX4_nextLink l _ _ _ _ _ _ e7) wcd_X4_nextLink wml_X4_176 wim_X4_nextLink wse_X4_nextLink win_X4_nextLink hd_X4_nextLink ⟨Nat.le_of_ble_eq_true rfl, Nat.le_of_ble_eq_true rfl⟩ (Nat.le_of_ble_eq_true rfl) rfl rfl rfl ?_
    obtain ⟨h8, e8, g8, hf⟩ := th_wr_some hf
    refine V_iast (pc := 148) X (th_da dtX4_hop 97 rfl) rfl g8 e8 ?_
    refine V_aload_n (pc := 149) X (th_da dtX4_hop 98 rfl) rfl ?_
    refine V_getR (pc := 150) (j := 2) (t := 2) X (th_da dtX4_hop 99 rfl) wfl_X4_15 iX4 rfl rfl (Nat.le_of_ble_eq_true rfl) rfl ?_
    refine V_iload_n (pc := 153) X (th_da dtX4_hop 100 rfl) rfl ?_
    refine V_bipush (pc := 154) (v := 8) X (th_da dtX4_hop 101 rfl) (by decide) ?_
    refine V_iadd (pc := 156) X (th_da dtX4_hop 102 rfl) ?_
    refine V_aload_n (pc := 157) X (th_da dtX4_hop 103 rfl) rfl ?_
    refine V_getR (pc := 158) (j := 2) (t := 2) X (th_da dtX4_hop 104 rfl) wfl_X4_15 iX4 rfl rfl (Nat.le_of_ble_eq_true rfl) rfl ?_
    refine V_iload_n (pc := 161) X (th_da dtX4_hop 105 rfl) rfl ?_
    refine V_bipush (pc := 162) (v := 9) X (th_da dtX4_hop 106 rfl) (by decide) ?_
    refine V_iadd (pc := 164) X (th_da dtX4_hop 107 rfl) ?_
    obtain ⟨v9, e9, g9, hf⟩ := th_rd_some hf
    refine V_iald (pc := 165) X (th_da dtX4_hop 108 rfl) rfl g9 e9 ?_
    refine V_iconst (pc := 166) (v := (-1)) X (th_da dtX4_hop 109 rfl) (by decide) ?_
    refine V_icmp_ne (pc := 167) (tgt := 174) X (th_da dtX4_hop 110 rfl) (by decide) (fun c10 => ?_) (fun c10 => ?_)
    · rw [if_pos c10] at hf
      refine V_iconst (pc := 170) (v := 0) X (th_da dtX4_hop 111 rfl) (by decide) ?_
      refine V_goto (pc := 171) (tgt := 175) X (th_da dtX4_hop 112 rfl) (by decide) ?_
      obtain ⟨h11, e11, g11, hf⟩ := th_wr_some hf
      refine V_iast (pc := 175) X (th_da dtX4_hop 114 rfl) rfl g11 e11 ?_
      refine V_bipush (pc := 176) (v := 20) X (th_da dtX4_hop 115 rfl) (by decide) ?_
      refine V_iload_n (pc := 178) X (th_da dtX4_hop 116 rfl) rfl ?_
      refine V_iadd (pc := 179) X (th_da dtX4_hop 117 rfl) ?_
      exact V_iretF (pc := 180) X (th_da dtX4_hop 118 rfl) hf
    · rw [if_neg c10] at hf
      refine V_iconst (pc := 174) (v := 2) X (th_da dtX4_hop 113 rfl) (by decide) ?_
      obtain ⟨h12, e12, g12, hf⟩ := th_wr_some hf
      refine V_iast (pc := 175) X (th_da dtX4_hop 114 rfl) rfl g12 e12 ?_
      refine V_bipush (pc := 176) (v := 20) X (th_da dtX4_hop 115 rfl) (by decide) ?_
      refine V_iload_n (pc := 178) X (th_da dtX4_hop 116 rfl) rfl ?_
      refine V_iadd (pc := 179) X (th_da dtX4_hop 117 rfl) ?_
      exact V_iretF (pc := 180) X (th_da dtX4_hop 118 rfl) hf
  · rw [if_neg c3] at hf
    refine V_aload_n (pc := 181) X (th_da dtX4_hop 119 rfl) rfl ?_
    refine V_iload_n (pc := 182) X (th_da dtX4_hop 120 rfl) rfl ?_
    refine V_iload_n (pc := 183) X (th_da dtX4_hop 121 rfl) rfl ?_
    refine V_aload_n (pc := 184) X (th_da dtX4_hop 122 rfl) rfl ?_
    refine V_getR (pc := 185) (j := 2) (t := 2) X (th_da dtX4_hop 123 rfl) wfl_X4_15 iX4 rfl rfl (Nat.le_of_ble_eq_true rfl) rfl ?_
    refine V_iload_n (pc := 188) X (th_da dtX4_hop 124 rfl) rfl ?_
    refine V_bipush (pc := 189) (v := 10) X (th_da dtX4_hop 125 rfl) (by decide) ?_
    refine V_iadd (pc := 191) X (th_da dtX4_hop 126 rfl) ?_
    obtain ⟨v13, e13, g13, hf⟩ := th_rd_some hf
    refine V_iald (pc := 192) X (th_da dtX4_hop 127 rfl) rfl g13 e13 ?_
    obtain ⟨u14, h14, e14, hf⟩ := th_bd_some hf
    refine V_callVi (pc := 193) (q := 0) (As := [.int y1, .int v1, .int v13]) X (th_da dtX4_hop 128 rfl) (mX4_forth l _ _ _ _ _ _ e14) wcd_X4_forth wml_X4_165 wim_X4_forth wse_X4_forth win_X4_forth hd_X4_forth ⟨Nat.le_of_ble_eq_true rfl, Nat.le_of_ble_eq_true rfl⟩ (Nat.le_of_ble_eq_true rfl) rfl rfl rfl ?_
    refine V_istore (pc := 196) (ls2 := [.ref 0, .int y1, .int y2, .int v1, .int u14]) X (th_da dtX4_hop 129 rfl) (Nat.le_of_ble_eq_true rfl) rfl rfl ?_
    refine V_iload (pc := 198) X (th_da dtX4_hop 130 rfl) rfl ?_
    refine V_iconst (pc := 200) (v := (-1)) X (th_da dtX4_hop 131 rfl) (by decide) ?_
    refine V_icmp_ne (pc := 201) (tgt := 219) X (th_da dtX4_hop 132 rfl) (by decide) (fun c15 => ?_) (fun c15 => ?_)
    · rw [if_pos c15] at hf
      refine V_aload_n (pc := 204) X (th_da dtX4_hop 133 rfl) rfl ?_
      refine V_getR (pc := 205) (j := 2) (t := 2) X (th_da dtX4_hop 134 rfl) wfl_X4_15 iX4 rfl rfl (Nat.le_of_ble_eq_true rfl) rfl ?_
      refine V_iload_n (pc := 208) X (th_da dtX4_hop 135 rfl) rfl ?_
      refine V_bipush (pc := 209) (v := 8) X (th_da dtX4_hop 136 rfl) (by decide) ?_
      refine V_iadd (pc := 211) X (th_da dtX4_hop 137 rfl) ?_
      refine V_iconst (pc := 212) (v := 0) X (th_da dtX4_hop 138 rfl) (by decide) ?_
      obtain ⟨h16, e16, g16, hf⟩ := th_wr_some hf
      refine V_iast (pc := 213) X (th_da dtX4_hop 139 rfl) rfl g16 e16 ?_
      refine V_bipush (pc := 214) (v := 50) X (th_da dtX4_hop 140 rfl) (by decide) ?_
      refine V_iload_n (pc := 216) X (th_da dtX4_hop 141 rfl) rfl ?_
      refine V_iadd (pc := 217) X (th_da dtX4_hop 142 rfl) ?_
      exact V_iretF (pc := 218) X (th_da dtX4_hop 143 rfl) hf
    · rw [if_neg c15] at hf
      refine V_aload_n (pc := 219) X (th_da dtX4_hop 144 rfl) rfl ?_
      refine V_getR (pc := 220) (j := 2) (t := 2) X (th_da dtX4_hop 145 rfl) wfl_X4_15 iX4 rfl rfl (Nat.le_of_ble_eq_true rfl) rfl ?_
      refine V_iload_n (pc := 223) X (th_da dtX4_hop 146 rfl) rfl ?_
      refine V_bipush (pc := 224) (v := 10) X (th_da dtX4_hop 147 rfl) (by decide) ?_
      refine V_iadd (pc := 226) X (th_da dtX4_hop 148 rfl) ?_
      refine V_iload (pc := 227) X (th_da dtX4_hop 149 rfl) rfl ?_
      obtain ⟨h17, e17, g17, hf⟩ := th_wr_some hf
      refine V_iast (pc := 229) X (th_da dtX4_hop 150 rfl) rfl g17 e17 ?_
      refine V_aload_n (pc := 230) X (th_da dtX4_hop 151 rfl) rfl ?_
      refine V_getR (pc := 231) (j := 2) (t := 2) X (th_da dtX4_hop 152 rfl) wfl_X4_15 iX4 rfl rfl (Nat.le_of_ble_eq_true rfl) rfl ?_
      refine V_iload_n (pc := 234) X (th_da dtX4_hop 153 rfl) rfl ?_
      refine V_bipush (pc := 235) (v := 9) X (th_da dtX4_hop 154 rfl) (by decide) ?_
      refine V_iadd (pc := 237) X (th_da dtX4_hop 155 rfl) ?_
      refine V_aload_n (pc := 238) X (th_da dtX4_hop 156 rfl) rfl ?_
      refine V_iload_n (pc := 239) X (th_da dtX4_hop 157 rfl) rfl ?_
      refine V_iload_n (pc := 240) X (th_da dtX4_hop 158 rfl) rfl ?_
      refine V_iconst (pc := 241) (v := 1) X (th_da dtX4_hop 159 rfl) (by decide) ?_
      obtain ⟨u18, h18, e18, hf⟩ := th_bd_some hf
      refine V_callVi (pc := 242) (q := 0) (As := [.int y1, .int v1, .int 1]) X (th_da dtX4_hop 160 rfl) (mX4_nextLink l _ _ _ _ _ _ e18) wcd_X4_nextLink wml_X4_176 wim_X4_nextLink wse_X4_nextLink win_X4_nextLink hd_X4_nextLink ⟨Nat.le_of_ble_eq_true rfl, Nat.le_of_ble_eq_true rfl⟩ (Nat.le_of_ble_eq_true rfl) rfl rfl rfl ?_
      obtain ⟨h19, e19, g19, hf⟩ := th_wr_some hf
      refine V_iast (pc := 245) X (th_da dtX4_hop 161 rfl) rfl g19 e19 ?_
      refine V_aload_n (pc := 246) X (th_da dtX4_hop 162 rfl) rfl ?_
      refine V_getR (pc := 247) (j := 2) (t := 2) X (th_da dtX4_hop 163 rfl) wfl_X4_15 iX4 rfl rfl (Nat.le_of_ble_eq_true rfl) rfl ?_
      refine V_iload_n (pc := 250) X (th_da dtX4_hop 164 rfl) rfl ?_
      refine V_bipush (pc := 251) (v := 9) X (th_da dtX4_hop 165 rfl) (by decide) ?_
      refine V_iadd (pc := 253) X (th_da dtX4_hop 166 rfl) ?_
      obtain ⟨v20, e20, g20, hf⟩ := th_rd_some hf
      refine V_iald (pc := 254) X (th_da dtX4_hop 167 rfl) rfl g20 e20 ?_
      refine V_iconst (pc := 255) (v := (-1)) X (th_da dtX4_hop 168 rfl) (by decide) ?_
      refine V_icmp_ne (pc := 256) (tgt := 301) X (th_da dtX4_hop 169 rfl) (by decide) (fun c21 => ?_) (fun c21 => ?_)
      · rw [if_pos c21] at hf
        refine V_aload_n (pc := 259) X (th_da dtX4_hop 170 rfl) rfl ?_
        refine V_getR (pc := 260) (j := 2) (t := 2) X (th_da dtX4_hop 171 rfl) wfl_X4_15 iX4 rfl rfl (Nat.le_of_ble_eq_true rfl) rfl ?_
        refine V_iload_n (pc := 263) X (th_da dtX4_hop 172 rfl) rfl ?_
        refine V_bipush (pc := 264) (v := 7) X (th_da dtX4_hop 173 rfl) (by decide) ?_
        refine V_iadd (pc := 266) X (th_da dtX4_hop 174 rfl) ?_
        refine V_iload (pc := 267) X (th_da dtX4_hop 175 rfl) rfl ?_
        obtain ⟨h22, e22, g22, hf⟩ := th_wr_some hf
        refine V_iast (pc := 269) X (th_da dtX4_hop 176 rfl) rfl g22 e22 ?_
        refine V_aload_n (pc := 270) X (th_da dtX4_hop 177 rfl) rfl ?_
        refine V_getR (pc := 271) (j := 2) (t := 2) X (th_da dtX4_hop 178 rfl) wfl_X4_15 iX4 rfl rfl (Nat.le_of_ble_eq_true rfl) rfl ?_
        refine V_iload_n (pc := 274) X (th_da dtX4_hop 179 rfl) rfl ?_
        refine V_bipush (pc := 275) (v := 8) X (th_da dtX4_hop 180 rfl) (by decide) ?_
        refine V_iadd (pc := 277) X (th_da dtX4_hop 181 rfl) ?_
        refine V_iconst (pc := 278) (v := 2) X (th_da dtX4_hop 182 rfl) (by decide) ?_
        obtain ⟨h23, e23, g23, hf⟩ := th_wr_some hf
        refine V_iast (pc := 279) X (th_da dtX4_hop 183 rfl) rfl g23 e23 ?_
        refine V_aload_n (pc := 280) X (th_da dtX4_hop 184 rfl) rfl ?_
        refine V_getR (pc := 281) (j := 2) (t := 2) X (th_da dtX4_hop 185 rfl) wfl_X4_15 iX4 rfl rfl (Nat.le_of_ble_eq_true rfl) rfl ?_
        refine V_iload_n (pc := 284) X (th_da dtX4_hop 186 rfl) rfl ?_
        refine V_bipush (pc := 285) (v := 9) X (th_da dtX4_hop 187 rfl) (by decide) ?_
        refine V_iadd (pc := 287) X (th_da dtX4_hop 188 rfl) ?_
        refine V_iload_n (pc := 288) X (th_da dtX4_hop 189 rfl) rfl ?_
        obtain ⟨h24, e24, g24, hf⟩ := th_wr_some hf
        refine V_iast (pc := 289) X (th_da dtX4_hop 190 rfl) rfl g24 e24 ?_
        refine V_aload_n (pc := 290) X (th_da dtX4_hop 191 rfl) rfl ?_
        refine V_getR (pc := 291) (j := 2) (t := 2) X (th_da dtX4_hop 192 rfl) wfl_X4_15 iX4 rfl rfl (Nat.le_of_ble_eq_true rfl) rfl ?_
        refine V_iload_n (pc := 294) X (th_da dtX4_hop 193 rfl) rfl ?_
        refine V_bipush (pc := 295) (v := 10) X (th_da dtX4_hop 194 rfl) (by decide) ?_
        refine V_iadd (pc := 297) X (th_da dtX4_hop 195 rfl) ?_
        refine V_ldc (pc := 298) (v := 1000000) X (th_da dtX4_hop 196 rfl) wco_X4_93 ?_
        obtain ⟨h25, e25, g25, hf⟩ := th_wr_some hf
        refine V_iast (pc := 300) X (th_da dtX4_hop 197 rfl) rfl g25 e25 ?_
        refine V_iload_n (pc := 301) X (th_da dtX4_hop 198 rfl) rfl ?_
        exact V_iretF (pc := 302) X (th_da dtX4_hop 199 rfl) hf
      · rw [if_neg c21] at hf
        refine V_iload_n (pc := 301) X (th_da dtX4_hop 198 rfl) rfl ?_
        exact V_iretF (pc := 302) X (th_da dtX4_hop 199 rfl) hf
set_option maxHeartbeats 4000000 in
set_option maxRecDepth 100000 in
theorem mX4_hop (l : Launch) (x1 : Int32) (h : th_H) (rr : Int32) (hh : th_H) (hf : fX4_hop x1 h = some (rr, hh)) : th_MI l LM yX4_hop cX4_hop 5 (some .int) 5 115 [.ref 0, .int x1] h (some (.int rr)) hh := by
  refine th_MI_of (ls := [.ref 0, .int x1, .null, .null, .null]) RX4 rfl rfl rfl (Nat.le_of_ble_eq_true rfl) ?_
  intro p0 e s m args below meth c D cI cZ ad X
  unfold fX4_hop at hf
  refine V_aload_n (pc := 0) X (th_da dtX4_hop 0 rfl) rfl ?_
  refine V_iconst (pc := 1) (v := 0) X (th_da dtX4_hop 1 rfl) (by decide) ?_
  obtain ⟨h1, e1, hf⟩ := th_st_some hf
  refine V_putI (pc := 2) (j := 0) (ty := .int) X (th_da dtX4_hop 2 rfl) wfl_X4_55 iX4 rfl rfl (Nat.le_of_ble_eq_true rfl) rfl tyX4 tyX4_ok nmX4 rfl (tyX4_ok 0 (Nat.le_of_ble_eq_true rfl)) rfl rfl e1 ?_
  refine V_aload_n (pc := 5) X (th_da dtX4_hop 3 rfl) rfl ?_
  refine V_iload_n (pc := 6) X (th_da dtX4_hop 4 rfl) rfl ?_
  obtain ⟨u2, h2, e2, hf⟩ := th_bd_some hf
  refine V_callVi (pc := 7) (q := 0) (As := [.int x1]) X (th_da dtX4_hop 5 rfl) (mX4_isFlow l _ _ _ _ e2) wcd_X4_isFlow wml_X4_125 wim_X4_isFlow wse_X4_isFlow win_X4_isFlow hd_X4_isFlow ⟨Nat.le_of_ble_eq_true rfl, Nat.le_of_ble_eq_true rfl⟩ (Nat.le_of_ble_eq_true rfl) rfl rfl rfl ?_
  refine V_if_ne (pc := 10) (tgt := 19) X (th_da dtX4_hop 6 rfl) (by decide) (fun c3 => ?_) (fun c3 => ?_)
  · rw [if_pos c3] at hf
    refine V_aload_n (pc := 13) X (th_da dtX4_hop 7 rfl) rfl ?_
    refine V_iconst (pc := 14) (v := 1) X (th_da dtX4_hop 8 rfl) (by decide) ?_
    obtain ⟨u4, h4, e4, hf⟩ := th_bd_some hf
    refine V_callVi (pc := 15) (q := 0) (As := [.int 1]) X (th_da dtX4_hop 9 rfl) (mX4_refuse l _ _ _ _ e4) wcd_X4_refuse wml_X4_88 wim_X4_refuse wse_X4_refuse win_X4_refuse hd_X4_refuse ⟨Nat.le_of_ble_eq_true rfl, Nat.le_of_ble_eq_true rfl⟩ (Nat.le_of_ble_eq_true rfl) rfl rfl rfl ?_
    exact V_iretF (pc := 18) X (th_da dtX4_hop 10 rfl) hf
  · rw [if_neg c3] at hf
    refine V_iload_n (pc := 19) X (th_da dtX4_hop 11 rfl) rfl ?_
    obtain ⟨u5, h5, e5, hf⟩ := th_bd_some hf
    refine V_callSi (pc := 20) (As := [.int x1]) X (th_da dtX4_hop 12 rfl) (mX4_at l _ _ _ _ e5) wcd_X4_at wml_X4_71 wst_X4_at win_X4_at hd_X4_at ⟨Nat.le_of_ble_eq_true rfl, Nat.le_of_ble_eq_true rfl⟩ (Nat.le_of_ble_eq_true rfl) rfl ?_
    refine V_istore_n (pc := 23) (ls2 := [.ref 0, .int x1, .int u5, .null, .null]) X (th_da dtX4_hop 13 rfl) (Nat.le_of_ble_eq_true rfl) rfl rfl ?_
    refine V_aload_n (pc := 24) X (th_da dtX4_hop 14 rfl) rfl ?_
    refine V_getR (pc := 25) (j := 2) (t := 2) X (th_da dtX4_hop 15 rfl) wfl_X4_15 iX4 rfl rfl (Nat.le_of_ble_eq_true rfl) rfl ?_
    refine V_iload_n (pc := 28) X (th_da dtX4_hop 16 rfl) rfl ?_
    refine V_bipush (pc := 29) (v := 8) X (th_da dtX4_hop 17 rfl) (by decide) ?_
    refine V_iadd (pc := 31) X (th_da dtX4_hop 18 rfl) ?_
    obtain ⟨v6, e6, g6, hf⟩ := th_rd_some hf
    refine V_iald (pc := 32) X (th_da dtX4_hop 19 rfl) rfl g6 e6 ?_
    refine V_if_ne (pc := 33) (tgt := 86) X (th_da dtX4_hop 20 rfl) (by decide) (fun c7 => ?_) (fun c7 => ?_)
    · rw [if_pos c7] at hf
      refine V_aload_n (pc := 36) X (th_da dtX4_hop 21 rfl) rfl ?_
      refine V_getR (pc := 37) (j := 2) (t := 2) X (th_da dtX4_hop 22 rfl) wfl_X4_15 iX4 rfl rfl (Nat.le_of_ble_eq_true rfl) rfl ?_
      refine V_iconst (pc := 40) (v := 0) X (th_da dtX4_hop 23 rfl) (by decide) ?_
      refine V_dup2 (pc := 41) X (th_da dtX4_hop 24 rfl) rfl rfl ?_
      obtain ⟨v8, e8, g8, hf⟩ := th_rd_some hf
      refine V_iald (pc := 42) X (th_da dtX4_hop 25 rfl) rfl g8 e8 ?_
      refine V_iconst (pc := 43) (v := 1) X (th_da dtX4_hop 26 rfl) (by decide) ?_
      refine V_iadd (pc := 44) X (th_da dtX4_hop 27 rfl) ?_
      obtain ⟨h9, e9, g9, hf⟩ := th_wr_some hf
      refine V_iast (pc := 45) X (th_da dtX4_hop 28 rfl) rfl g9 e9 ?_
      refine V_aload_n (pc := 46) X (th_da dtX4_hop 29 rfl) rfl ?_
      refine V_getR (pc := 47) (j := 2) (t := 2) X (th_da dtX4_hop 30 rfl) wfl_X4_15 iX4 rfl rfl (Nat.le_of_ble_eq_true rfl) rfl ?_
      refine V_iload_n (pc := 50) X (th_da dtX4_hop 31 rfl) rfl ?_
      refine V_bipush (pc := 51) (v := 8) X (th_da dtX4_hop 32 rfl) (by decide) ?_
      refine V_iadd (pc := 53) X (th_da dtX4_hop 33 rfl) ?_
      refine V_iconst (pc := 54) (v := 1) X (th_da dtX4_hop 34 rfl) (by decide) ?_
      obtain ⟨h10, e10, g10, hf⟩ := th_wr_some hf
      refine V_iast (pc := 55) X (th_da dtX4_hop 35 rfl) rfl g10 e10 ?_
      refine V_aload_n (pc := 56) X (th_da dtX4_hop 36 rfl) rfl ?_
      refine V_getR (pc := 57) (j := 2) (t := 2) X (th_da dtX4_hop 37 rfl) wfl_X4_15 iX4 rfl rfl (Nat.le_of_ble_eq_true rfl) rfl ?_
      refine V_iload_n (pc := 60) X (th_da dtX4_hop 38 rfl) rfl ?_
      refine V_bipush (pc := 61) (v := 9) X (th_da dtX4_hop 39 rfl) (by decide) ?_
      refine V_iadd (pc := 63) X (th_da dtX4_hop 40 rfl) ?_
      refine V_aload_n (pc := 64) X (th_da dtX4_hop 41 rfl) rfl ?_
      refine V_iload_n (pc := 65) X (th_da dtX4_hop 42 rfl) rfl ?_
      refine V_iconst (pc := 66) (v := (-1)) X (th_da dtX4_hop 43 rfl) (by decide) ?_
      refine V_iconst (pc := 67) (v := 1) X (th_da dtX4_hop 44 rfl) (by decide) ?_
      obtain ⟨u11, h11, e11, hf⟩ := th_bd_some hf
      refine V_callVi (pc := 68) (q := 0) (As := [.int x1, .int (-1), .int 1]) X (th_da dtX4_hop 45 rfl) (mX4_nextLink l _ _ _ _ _ _ e11) wcd_X4_nextLink wml_X4_176 wim_X4_nextLink wse_X4_nextLink win_X4_nextLink hd_X4_nextLink ⟨Nat.le_of_ble_eq_true rfl, Nat.le_of_ble_eq_true rfl⟩ (Nat.le_of_ble_eq_true rfl) rfl rfl rfl ?_
      obtain ⟨h12, e12, g12, hf⟩ := th_wr_some hf
      refine V_iast (pc := 71) X (th_da dtX4_hop 46 rfl) rfl g12 e12 ?_
      refine V_aload_n (pc := 72) X (th_da dtX4_hop 47 rfl) rfl ?_
      refine V_getR (pc := 73) (j := 2) (t := 2) X (th_da dtX4_hop 48 rfl) wfl_X4_15 iX4 rfl rfl (Nat.le_of_ble_eq_true rfl) rfl ?_
      refine V_iload_n (pc := 76) X (th_da dtX4_hop 49 rfl) rfl ?_
      refine V_bipush (pc := 77) (v := 10) X (th_da dtX4_hop 50 rfl) (by decide) ?_
      refine V_iadd (pc := 79) X (th_da dtX4_hop 51 rfl) ?_
      refine V_aload_n (pc := 80) X (th_da dtX4_hop 52 rfl) rfl ?_
      refine V_iload_n (pc := 81) X (th_da dtX4_hop 53 rfl) rfl ?_
      obtain ⟨u13, h13, e13, hf⟩ := th_bd_some hf
      refine V_callVi (pc := 82) (q := 0) (As := [.int x1]) X (th_da dtX4_hop 54 rfl) (mX4_own l _ _ _ _ e13) wcd_X4_own wml_X4_162 wim_X4_own wse_X4_own win_X4_own hd_X4_own ⟨Nat.le_of_ble_eq_true rfl, Nat.le_of_ble_eq_true rfl⟩ (Nat.le_of_ble_eq_true rfl) rfl rfl rfl ?_
      obtain ⟨h14, e14, g14, hf⟩ := th_wr_some hf
      refine V_iast (pc := 85) X (th_da dtX4_hop 55 rfl) rfl g14 e14 ?_
      exact tX4_hop_c86 X _ _ _ hf
    · rw [if_neg c7] at hf
      exact tX4_hop_c86 X _ _ _ hf
end
def fX4_round_c167 : Nat → Int32 → Int32 → th_H → Option (Int32 × th_H)
  | 0, _, _, _ => none
  | n + 1, y1, y2, h =>
    if (y2 < 20 : Prop) then
      if (y1 = 0 : Prop) then
        fX4_round_c167 n 0 (y2 + 1) h
      else
        th_rd h 6 420 ((400 : Int32) + y2) fun v3 =>
        th_bd (fX4_at y2 h) fun u4 h4 =>
        th_rd h4 2 643 (u4 + 7) fun v5 =>
        if (v3 = v5 : Prop) then
          fX4_round_c167 n 1 (y2 + 1) h4
        else
          fX4_round_c167 n 0 (y2 + 1) h4
    else
      th_gb y1 <|
      some (y1, h)
def fX4_round_c123 : Nat → Int32 → Int32 → th_H → Option (Int32 × th_H)
  | 0, _, _, _ => none
  | n + 1, y1, y2, h =>
    if (y2 < 400 : Prop) then
      if (y1 = 0 : Prop) then
        fX4_round_c123 n 0 (y2 + 1) h
      else
        th_rd h 6 420 y2 fun v3 =>
        th_rd h 2 643 ((243 : Int32) + y2) fun v4 =>
        if (v3 = v4 : Prop) then
          fX4_round_c123 n 1 (y2 + 1) h
        else
          fX4_round_c123 n 0 (y2 + 1) h
    else
      fX4_round_c167 1000 y1 0 h
def fX4_round_c69 : Nat → Int32 → th_H → Option (Int32 × th_H)
  | 0, _, _ => none
  | n + 1, y1, h =>
    if (y1 < 20 : Prop) then
      th_bd (fX4_isFlow y1 h) fun u2 h2 =>
      if (u2 = 0 : Prop) then
        fX4_round_c69 n (y1 + 1) h2
      else
        th_bd (fX4_at y1 h2) fun u4 h4 =>
        th_rd h4 2 643 (u4 + 6) fun v5 =>
        if (v5 = 0 : Prop) then
          th_bd (fX4_sends y1 h4) fun _u7 h7 =>
          fX4_round_c69 n (y1 + 1) h7
        else
          fX4_round_c69 n (y1 + 1) h4
    else
      th_rd h 2 643 1 fun v8 =>
      th_wr h 2 643 1 (v8 + 1) fun h9 =>
      fX4_round_c123 1000 1 0 h9
def fX4_round_c33 : Nat → Int32 → th_H → Option (Int32 × th_H)
  | 0, _, _ => none
  | n + 1, y1, h =>
    if (y1 < 20 : Prop) then
      th_bd (fX4_at y1 h) fun u2 h2 =>
      th_rd h2 2 643 (u2 + 7) fun v3 =>
      th_wr h2 6 420 ((400 : Int32) + y1) v3 fun h4 =>
      fX4_round_c33 n (y1 + 1) h4
    else
      fX4_round_c69 1000 0 h
def fX4_round_c2 : Nat → Int32 → th_H → Option (Int32 × th_H)
  | 0, _, _ => none
  | n + 1, y1, h =>
    if (y1 < 400 : Prop) then
      th_rd h 2 643 ((243 : Int32) + y1) fun v2 =>
      th_wr h 6 420 y1 v2 fun h3 =>
      fX4_round_c2 n (y1 + 1) h3
    else
      fX4_round_c33 1000 0 h
def fX4_round (h : th_H) : Option (Int32 × th_H) :=
  fX4_round_c2 1000 0 h
def tbX4_round : List (Nat × Instr × Nat) := [(0, .iconst 0, 1), (1, .istore_n 1, 1), (2, .iload_n 1, 1), (3, .sipush 400, 3), (6, .if_icmp .ge 25, 3), (9, .aload_n 0, 1), (10, .getfield 28, 3), (13, .iload_n 1, 1), (14, .aload_n 0, 1), (15, .getfield 15, 3), (18, .sipush 243, 3), (21, .iload_n 1, 1), (22, .iadd, 1), (23, .iaload, 1), (24, .iastore, 1), (25, .iinc 1 1, 3), (28, .goto (-26), 3), (31, .iconst 0, 1), (32, .istore_n 1, 1), (33, .iload_n 1, 1), (34, .bipush 20, 2), (36, .if_icmp .ge 31, 3), (39, .aload_n 0, 1), (40, .getfield 28, 3), (43, .sipush 400, 3), (46, .iload_n 1, 1), (47, .iadd, 1), (48, .aload_n 0, 1), (49, .getfield 15, 3), (52, .iload_n 1, 1), (53, .invokestatic 71, 3), (56, .bipush 7, 2), (58, .iadd, 1), (59, .iaload, 1), (60, .iastore, 1), (61, .iinc 1 1, 3), (64, .goto (-31), 3), (67, .iconst 0, 1), (68, .istore_n 1, 1), (69, .iload_n 1, 1), (70, .bipush 20, 2), (72, .if_icmp .ge 37, 3), (75, .aload_n 0, 1), (76, .iload_n 1, 1), (77, .invokevirtual 125, 3), (80, .ifCond .eq 23, 3), (83, .aload_n 0, 1), (84, .getfield 15, 3), (87, .iload_n 1, 1), (88, .invokestatic 71, 3), (91, .bipush 6, 2), (93, .iadd, 1), (94, .iaload, 1), (95, .ifCond .ne 8, 3), (98, .aload_n 0, 1), (99, .iload_n 1, 1), (100, .invokevirtual 172, 3), (103, .iinc 1 1, 3), (106, .goto (-37), 3), (109, .aload_n 0, 1), (110, .getfield 15, 3), (113, .iconst 1, 1), (114, .dup2, 1), (115, .iaload, 1), (116, .iconst 1, 1), (117, .iadd, 1), (118, .iastore, 1), (119, .iconst 1, 1), (120, .istore_n 1, 1), (121, .iconst 0, 1), (122, .istore_n 2, 1), (123, .iload_n 2, 1), (124, .sipush 400, 3), (127, .if_icmp .ge 38, 3), (130, .iload_n 1, 1), (131, .ifCond .eq 26, 3), (134, .aload_n 0, 1), (135, .getfield 28, 3), (138, .iload_n 2, 1), (139, .iaload, 1), (140, .aload_n 0, 1), (141, .getfield 15, 3), (144, .sipush 243, 3), (147, .iload_n 2, 1), (148, .iadd, 1), (149, .iaload, 1), (150, .if_icmp .ne 7, 3), (153, .iconst 1, 1), (154, .goto 4, 3), (157, .iconst 0, 1), (158, .istore_n 1, 1), (159, .iinc 2 1, 3), (162, .goto (-39), 3), (165, .iconst 0, 1), (166, .istore_n 2, 1), (167, .iload_n 2, 1), (168, .bipush 20, 2), (170, .if_icmp .ge 44, 3), (173, .iload_n 1, 1), (174, .ifCond .eq 32, 3), (177, .aload_n 0, 1), (178, .getfield 28, 3), (181, .sipush 400, 3), (184, .iload_n 2, 1), (185, .iadd, 1), (186, .iaload, 1), (187, .aload_n 0, 1), (188, .getfield 15, 3), (191, .iload_n 2, 1), (192, .invokestatic 71, 3), (195, .bipush 7, 2), (197, .iadd, 1), (198, .iaload, 1), (199, .if_icmp .ne 7, 3), (202, .iconst 1, 1), (203, .goto 4, 3), (206, .iconst 0, 1), (207, .istore_n 1, 1), (208, .iinc 2 1, 3), (211, .goto (-44), 3), (214, .iload_n 1, 1), (215, .ireturn, 1)]
theorem dtX4_round : th_dec cX4_round tbX4_round = true := by decide +kernel
section
variable {p0 : Program} {l : Launch} {e : Env} {s : State} {m : MethodId} {args : Array Value} {below : List Frame} {meth : Method} {c : Code} {D : va_G} {cI cZ : ClassId} {ad : Nat → Nat} {rr : Int32} {hh : th_H}
set_option maxHeartbeats 4000000 in
set_option maxRecDepth 100000 in
theorem tX4_round_c167 (X : th_X p0 s m args meth c D cI cZ ad LM 3 RX4 cX4_round (some .boolean)) : ∀ (n : Nat) (y1 : Int32) (y2 : Int32) (h : th_H), fX4_round_c167 n y1 y2 h = some (rr, hh) → th_V p0 l e { frames := 6, cells := 0, slots := 0, locals := 138 } s m args below meth c D cI cZ ad LM 3 (some (.int rr)) hh 167 [.ref 0, .int y1, .int y2] [] h := by
  intro n
  induction n with
  | zero => intro y1 y2 h hf; cases hf
  | succ n ih =>
    intro y1 y2 h hf
    rw [fX4_round_c167] at hf
    refine V_iload_n (pc := 167) X (th_da dtX4_round 95 rfl) rfl ?_
    refine V_bipush (pc := 168) (v := 20) X (th_da dtX4_round 96 rfl) (by decide) ?_
    refine V_icmp_ge (pc := 170) (tgt := 214) X (th_da dtX4_round 97 rfl) (by decide) (fun c1 => ?_) (fun c1 => ?_)
    · rw [if_pos c1] at hf
      refine V_iload_n (pc := 173) X (th_da dtX4_round 98 rfl) rfl ?_
      refine V_if_eq (pc := 174) (tgt := 206) X (th_da dtX4_round 99 rfl) (by decide) (fun c2 => ?_) (fun c2 => ?_)
      · rw [if_pos c2] at hf
        refine V_iconst (pc := 206) (v := 0) X (th_da dtX4_round 116 rfl) (by decide) ?_
        refine V_istore_n (pc := 207) (ls2 := [.ref 0, .int 0, .int y2]) X (th_da dtX4_round 117 rfl) (Nat.le_of_ble_eq_true rfl) rfl rfl ?_
        refine V_iinc (pc := 208) (v := y2 + 1) (ls2 := [.ref 0, .int 0, .int (y2 + 1)]) X (th_da dtX4_round 118 rfl) rfl rfl (Nat.le_of_ble_eq_true rfl) rfl rfl ?_
        refine V_goto (pc := 211) (tgt := 167) X (th_da dtX4_round 119 rfl) (by decide) ?_
        exact ih _ _ _ hf
      · rw [if_neg c2] at hf
        refine V_aload_n (pc := 177) X (th_da dtX4_round 100 rfl) rfl ?_
        refine V_getR (pc := 178) (j := 6) (t := 6) X (th_da dtX4_round 101 rfl) wfl_X4_28 iX4 rfl rfl (Nat.le_of_ble_eq_true rfl) rfl ?_
        refine V_sipush (pc := 181) (v := 400) X (th_da dtX4_round 102 rfl) (by decide) ?_
        refine V_iload_n (pc := 184) X (th_da dtX4_round 103 rfl) rfl ?_
        refine V_iadd (pc := 185) X (th_da dtX4_round 104 rfl) ?_
        obtain ⟨v3, e3, g3, hf⟩ := th_rd_some hf
        refine V_iald (pc := 186) X (th_da dtX4_round 105 rfl) rfl g3 e3 ?_
        refine V_aload_n (pc := 187) X (th_da dtX4_round 106 rfl) rfl ?_
        refine V_getR (pc := 188) (j := 2) (t := 2) X (th_da dtX4_round 107 rfl) wfl_X4_15 iX4 rfl rfl (Nat.le_of_ble_eq_true rfl) rfl ?_
        refine V_iload_n (pc := 191) X (th_da dtX4_round 108 rfl) rfl ?_
        obtain ⟨u4, h4, e4, hf⟩ := th_bd_some hf
        refine V_callSi (pc := 192) (As := [.int y2]) X (th_da dtX4_round 109 rfl) (mX4_at l _ _ _ _ e4) wcd_X4_at wml_X4_71 wst_X4_at win_X4_at hd_X4_at ⟨Nat.le_of_ble_eq_true rfl, Nat.le_of_ble_eq_true rfl⟩ (Nat.le_of_ble_eq_true rfl) rfl ?_
        refine V_bipush (pc := 195) (v := 7) X (th_da dtX4_round 110 rfl) (by decide) ?_
        refine V_iadd (pc := 197) X (th_da dtX4_round 111 rfl) ?_
        obtain ⟨v5, e5, g5, hf⟩ := th_rd_some hf
        refine V_iald (pc := 198) X (th_da dtX4_round 112 rfl) rfl g5 e5 ?_
        refine V_icmp_ne (pc := 199) (tgt := 206) X (th_da dtX4_round 113 rfl) (by decide) (fun c6 => ?_) (fun c6 => ?_)
        · rw [if_pos c6] at hf
          refine V_iconst (pc := 202) (v := 1) X (th_da dtX4_round 114 rfl) (by decide) ?_
          refine V_goto (pc := 203) (tgt := 207) X (th_da dtX4_round 115 rfl) (by decide) ?_
          refine V_istore_n (pc := 207) (ls2 := [.ref 0, .int 1, .int y2]) X (th_da dtX4_round 117 rfl) (Nat.le_of_ble_eq_true rfl) rfl rfl ?_
          refine V_iinc (pc := 208) (v := y2 + 1) (ls2 := [.ref 0, .int 1, .int (y2 + 1)]) X (th_da dtX4_round 118 rfl) rfl rfl (Nat.le_of_ble_eq_true rfl) rfl rfl ?_
          refine V_goto (pc := 211) (tgt := 167) X (th_da dtX4_round 119 rfl) (by decide) ?_
          exact ih _ _ _ hf
        · rw [if_neg c6] at hf
          refine V_iconst (pc := 206) (v := 0) X (th_da dtX4_round 116 rfl) (by decide) ?_
          refine V_istore_n (pc := 207) (ls2 := [.ref 0, .int 0, .int y2]) X (th_da dtX4_round 117 rfl) (Nat.le_of_ble_eq_true rfl) rfl rfl ?_
          refine V_iinc (pc := 208) (v := y2 + 1) (ls2 := [.ref 0, .int 0, .int (y2 + 1)]) X (th_da dtX4_round 118 rfl) rfl rfl (Nat.le_of_ble_eq_true rfl) rfl rfl ?_
          refine V_goto (pc := 211) (tgt := 167) X (th_da dtX4_round 119 rfl) (by decide) ?_
          exact ih _ _ _ hf
    · rw [if_neg c1] at hf
      refine V_iload_n (pc := 214) X (th_da dtX4_round 120 rfl) rfl ?_
      obtain ⟨g7, hf⟩ := th_gb_some hf
      exact V_zretF (pc := 215) X (th_da dtX4_round 121 rfl) g7 hf
set_option maxHeartbeats 4000000 in
set_option maxRecDepth 100000 in
theorem tX4_round_c123 (X : th_X p0 s m args meth c D cI cZ ad LM 3 RX4 cX4_round (some .boolean)) : ∀ (n : Nat) (y1 : Int32) (y2 : Int32) (h : th_H), fX4_round_c123 n y1 y2 h = some (rr, hh) → th_V p0 l e { frames := 6, cells := 0, slots := 0, locals := 138 } s m args below meth c D cI cZ ad LM 3 (some (.int rr)) hh 123 [.ref 0, .int y1, .int y2] [] h := by
  intro n
  induction n with
  | zero => intro y1 y2 h hf; cases hf
  | succ n ih =>
    intro y1 y2 h hf
    rw [fX4_round_c123] at hf
    refine V_iload_n (pc := 123) X (th_da dtX4_round 71 rfl) rfl ?_
    refine V_sipush (pc := 124) (v := 400) X (th_da dtX4_round 72 rfl) (by decide) ?_
    refine V_icmp_ge (pc := 127) (tgt := 165) X (th_da dtX4_round 73 rfl) (by decide) (fun c1 => ?_) (fun c1 => ?_)
    · rw [if_pos c1] at hf
      refine V_iload_n (pc := 130) X (th_da dtX4_round 74 rfl) rfl ?_
      refine V_if_eq (pc := 131) (tgt := 157) X (th_da dtX4_round 75 rfl) (by decide) (fun c2 => ?_) (fun c2 => ?_)
      · rw [if_pos c2] at hf
        refine V_iconst (pc := 157) (v := 0) X (th_da dtX4_round 89 rfl) (by decide) ?_
        refine V_istore_n (pc := 158) (ls2 := [.ref 0, .int 0, .int y2]) X (th_da dtX4_round 90 rfl) (Nat.le_of_ble_eq_true rfl) rfl rfl ?_
        refine V_iinc (pc := 159) (v := y2 + 1) (ls2 := [.ref 0, .int 0, .int (y2 + 1)]) X (th_da dtX4_round 91 rfl) rfl rfl (Nat.le_of_ble_eq_true rfl) rfl rfl ?_
        refine V_goto (pc := 162) (tgt := 123) X (th_da dtX4_round 92 rfl) (by decide) ?_
        exact ih _ _ _ hf
      · rw [if_neg c2] at hf
        refine V_aload_n (pc := 134) X (th_da dtX4_round 76 rfl) rfl ?_
        refine V_getR (pc := 135) (j := 6) (t := 6) X (th_da dtX4_round 77 rfl) wfl_X4_28 iX4 rfl rfl (Nat.le_of_ble_eq_true rfl) rfl ?_
        refine V_iload_n (pc := 138) X (th_da dtX4_round 78 rfl) rfl ?_
        obtain ⟨v3, e3, g3, hf⟩ := th_rd_some hf
        refine V_iald (pc := 139) X (th_da dtX4_round 79 rfl) rfl g3 e3 ?_
        refine V_aload_n (pc := 140) X (th_da dtX4_round 80 rfl) rfl ?_
        refine V_getR (pc := 141) (j := 2) (t := 2) X (th_da dtX4_round 81 rfl) wfl_X4_15 iX4 rfl rfl (Nat.le_of_ble_eq_true rfl) rfl ?_
        refine V_sipush (pc := 144) (v := 243) X (th_da dtX4_round 82 rfl) (by decide) ?_
        refine V_iload_n (pc := 147) X (th_da dtX4_round 83 rfl) rfl ?_
        refine V_iadd (pc := 148) X (th_da dtX4_round 84 rfl) ?_
        obtain ⟨v4, e4, g4, hf⟩ := th_rd_some hf
        refine V_iald (pc := 149) X (th_da dtX4_round 85 rfl) rfl g4 e4 ?_
        refine V_icmp_ne (pc := 150) (tgt := 157) X (th_da dtX4_round 86 rfl) (by decide) (fun c5 => ?_) (fun c5 => ?_)
        · rw [if_pos c5] at hf
          refine V_iconst (pc := 153) (v := 1) X (th_da dtX4_round 87 rfl) (by decide) ?_
          refine V_goto (pc := 154) (tgt := 158) X (th_da dtX4_round 88 rfl) (by decide) ?_
          refine V_istore_n (pc := 158) (ls2 := [.ref 0, .int 1, .int y2]) X (th_da dtX4_round 90 rfl) (Nat.le_of_ble_eq_true rfl) rfl rfl ?_
          refine V_iinc (pc := 159) (v := y2 + 1) (ls2 := [.ref 0, .int 1, .int (y2 + 1)]) X (th_da dtX4_round 91 rfl) rfl rfl (Nat.le_of_ble_eq_true rfl) rfl rfl ?_
          refine V_goto (pc := 162) (tgt := 123) X (th_da dtX4_round 92 rfl) (by decide) ?_
          exact ih _ _ _ hf
        · rw [if_neg c5] at hf
          refine V_iconst (pc := 157) (v := 0) X (th_da dtX4_round 89 rfl) (by decide) ?_
          refine V_istore_n (pc := 158) (ls2 := [.ref 0, .int 0, .int y2]) X (th_da dtX4_round 90 rfl) (Nat.le_of_ble_eq_true rfl) rfl rfl ?_
          refine V_iinc (pc := 159) (v := y2 + 1) (ls2 := [.ref 0, .int 0, .int (y2 + 1)]) X (th_da dtX4_round 91 rfl) rfl rfl (Nat.le_of_ble_eq_true rfl) rfl rfl ?_
          refine V_goto (pc := 162) (tgt := 123) X (th_da dtX4_round 92 rfl) (by decide) ?_
          exact ih _ _ _ hf
    · rw [if_neg c1] at hf
      refine V_iconst (pc := 165) (v := 0) X (th_da dtX4_round 93 rfl) (by decide) ?_
      refine V_istore_n (pc := 166) (ls2 := [.ref 0, .int y1, .int 0]) X (th_da dtX4_round 94 rfl) (Nat.le_of_ble_eq_true rfl) rfl rfl ?_
      exact tX4_round_c167 X _ _ _ _ hf
set_option maxHeartbeats 4000000 in
set_option maxRecDepth 100000 in
theorem tX4_round_c69 (X : th_X p0 s m args meth c D cI cZ ad LM 3 RX4 cX4_round (some .boolean)) : ∀ (n : Nat) (y1 : Int32) (h : th_H), fX4_round_c69 n y1 h = some (rr, hh) → th_V p0 l e { frames := 6, cells := 0, slots := 0, locals := 138 } s m args below meth c D cI cZ ad LM 3 (some (.int rr)) hh 69 [.ref 0, .int y1, .null] [] h := by
  intro n
  induction n with
  | zero => intro y1 h hf; cases hf
  | succ n ih =>
    intro y1 h hf
    rw [fX4_round_c69] at hf
    refine V_iload_n (pc := 69) X (th_da dtX4_round 39 rfl) rfl ?_
    refine V_bipush (pc := 70) (v := 20) X (th_da dtX4_round 40 rfl) (by decide) ?_
    refine V_icmp_ge (pc := 72) (tgt := 109) X (th_da dtX4_round 41 rfl) (by decide) (fun c1 => ?_) (fun c1 => ?_)
    · rw [if_pos c1] at hf
      refine V_aload_n (pc := 75) X (th_da dtX4_round 42 rfl) rfl ?_
      refine V_iload_n (pc := 76) X (th_da dtX4_round 43 rfl) rfl ?_
      obtain ⟨u2, h2, e2, hf⟩ := th_bd_some hf
      refine V_callVi (pc := 77) (q := 0) (As := [.int y1]) X (th_da dtX4_round 44 rfl) (mX4_isFlow l _ _ _ _ e2) wcd_X4_isFlow wml_X4_125 wim_X4_isFlow wse_X4_isFlow win_X4_isFlow hd_X4_isFlow ⟨Nat.le_of_ble_eq_true rfl, Nat.le_of_ble_eq_true rfl⟩ (Nat.le_of_ble_eq_true rfl) rfl rfl rfl ?_
      refine V_if_eq (pc := 80) (tgt := 103) X (th_da dtX4_round 45 rfl) (by decide) (fun c3 => ?_) (fun c3 => ?_)
      · rw [if_pos c3] at hf
        refine V_iinc (pc := 103) (v := y1 + 1) (ls2 := [.ref 0, .int (y1 + 1), .null]) X (th_da dtX4_round 57 rfl) rfl rfl (Nat.le_of_ble_eq_true rfl) rfl rfl ?_
        refine V_goto (pc := 106) (tgt := 69) X (th_da dtX4_round 58 rfl) (by decide) ?_
        exact ih _ _ hf
      · rw [if_neg c3] at hf
        refine V_aload_n (pc := 83) X (th_da dtX4_round 46 rfl) rfl ?_
        refine V_getR (pc := 84) (j := 2) (t := 2) X (th_da dtX4_round 47 rfl) wfl_X4_15 iX4 rfl rfl (Nat.le_of_ble_eq_true rfl) rfl ?_
        refine V_iload_n (pc := 87) X (th_da dtX4_round 48 rfl) rfl ?_
        obtain ⟨u4, h4, e4, hf⟩ := th_bd_some hf
        refine V_callSi (pc := 88) (As := [.int y1]) X (th_da dtX4_round 49 rfl) (mX4_at l _ _ _ _ e4) wcd_X4_at wml_X4_71 wst_X4_at win_X4_at hd_X4_at ⟨Nat.le_of_ble_eq_true rfl, Nat.le_of_ble_eq_true rfl⟩ (Nat.le_of_ble_eq_true rfl) rfl ?_
        refine V_bipush (pc := 91) (v := 6) X (th_da dtX4_round 50 rfl) (by decide) ?_
        refine V_iadd (pc := 93) X (th_da dtX4_round 51 rfl) ?_
        obtain ⟨v5, e5, g5, hf⟩ := th_rd_some hf
        refine V_iald (pc := 94) X (th_da dtX4_round 52 rfl) rfl g5 e5 ?_
        refine V_if_ne (pc := 95) (tgt := 103) X (th_da dtX4_round 53 rfl) (by decide) (fun c6 => ?_) (fun c6 => ?_)
        · rw [if_pos c6] at hf
          refine V_aload_n (pc := 98) X (th_da dtX4_round 54 rfl) rfl ?_
          refine V_iload_n (pc := 99) X (th_da dtX4_round 55 rfl) rfl ?_
          obtain ⟨u7, h7, e7, hf⟩ := th_bd_some hf
          refine V_callVv (pc := 100) (q := 0) (As := [.int y1]) X (th_da dtX4_round 56 rfl) (mX4_sends l _ _ _ _ e7) wcd_X4_sends wml_X4_172 wim_X4_sends wse_X4_sends win_X4_sends hd_X4_sends ⟨Nat.le_of_ble_eq_true rfl, Nat.le_of_ble_eq_true rfl⟩ (Nat.le_of_ble_eq_true rfl) rfl rfl rfl ?_
          refine V_iinc (pc := 103) (v := y1 + 1) (ls2 := [.ref 0, .int (y1 + 1), .null]) X (th_da dtX4_round 57 rfl) rfl rfl (Nat.le_of_ble_eq_true rfl) rfl rfl ?_
          refine V_goto (pc := 106) (tgt := 69) X (th_da dtX4_round 58 rfl) (by decide) ?_
          exact ih _ _ hf
        · rw [if_neg c6] at hf
          refine V_iinc (pc := 103) (v := y1 + 1) (ls2 := [.ref 0, .int (y1 + 1), .null]) X (th_da dtX4_round 57 rfl) rfl rfl (Nat.le_of_ble_eq_true rfl) rfl rfl ?_
          refine V_goto (pc := 106) (tgt := 69) X (th_da dtX4_round 58 rfl) (by decide) ?_
          exact ih _ _ hf
    · rw [if_neg c1] at hf
      refine V_aload_n (pc := 109) X (th_da dtX4_round 59 rfl) rfl ?_
      refine V_getR (pc := 110) (j := 2) (t := 2) X (th_da dtX4_round 60 rfl) wfl_X4_15 iX4 rfl rfl (Nat.le_of_ble_eq_true rfl) rfl ?_
      refine V_iconst (pc := 113) (v := 1) X (th_da dtX4_round 61 rfl) (by decide) ?_
      refine V_dup2 (pc := 114) X (th_da dtX4_round 62 rfl) rfl rfl ?_
      obtain ⟨v8, e8, g8, hf⟩ := th_rd_some hf
      refine V_iald (pc := 115) X (th_da dtX4_round 63 rfl) rfl g8 e8 ?_
      refine V_iconst (pc := 116) (v := 1) X (th_da dtX4_round 64 rfl) (by decide) ?_
      refine V_iadd (pc := 117) X (th_da dtX4_round 65 rfl) ?_
      obtain ⟨h9, e9, g9, hf⟩ := th_wr_some hf
      refine V_iast (pc := 118) X (th_da dtX4_round 66 rfl) rfl g9 e9 ?_
      refine V_iconst (pc := 119) (v := 1) X (th_da dtX4_round 67 rfl) (by decide) ?_
      refine V_istore_n (pc := 120) (ls2 := [.ref 0, .int 1, .null]) X (th_da dtX4_round 68 rfl) (Nat.le_of_ble_eq_true rfl) rfl rfl ?_
      refine V_iconst (pc := 121) (v := 0) X (th_da dtX4_round 69 rfl) (by decide) ?_
      refine V_istore_n (pc := 122) (ls2 := [.ref 0, .int 1, .int 0]) X (th_da dtX4_round 70 rfl) (Nat.le_of_ble_eq_true rfl) rfl rfl ?_
      exact tX4_round_c123 X _ _ _ _ hf
set_option maxHeartbeats 4000000 in
set_option maxRecDepth 100000 in
theorem tX4_round_c33 (X : th_X p0 s m args meth c D cI cZ ad LM 3 RX4 cX4_round (some .boolean)) : ∀ (n : Nat) (y1 : Int32) (h : th_H), fX4_round_c33 n y1 h = some (rr, hh) → th_V p0 l e { frames := 6, cells := 0, slots := 0, locals := 138 } s m args below meth c D cI cZ ad LM 3 (some (.int rr)) hh 33 [.ref 0, .int y1, .null] [] h := by
  intro n
  induction n with
  | zero => intro y1 h hf; cases hf
  | succ n ih =>
    intro y1 h hf
    rw [fX4_round_c33] at hf
    refine V_iload_n (pc := 33) X (th_da dtX4_round 19 rfl) rfl ?_
    refine V_bipush (pc := 34) (v := 20) X (th_da dtX4_round 20 rfl) (by decide) ?_
    refine V_icmp_ge (pc := 36) (tgt := 67) X (th_da dtX4_round 21 rfl) (by decide) (fun c1 => ?_) (fun c1 => ?_)
    · rw [if_pos c1] at hf
      refine V_aload_n (pc := 39) X (th_da dtX4_round 22 rfl) rfl ?_
      refine V_getR (pc := 40) (j := 6) (t := 6) X (th_da dtX4_round 23 rfl) wfl_X4_28 iX4 rfl rfl (Nat.le_of_ble_eq_true rfl) rfl ?_
      refine V_sipush (pc := 43) (v := 400) X (th_da dtX4_round 24 rfl) (by decide) ?_
      refine V_iload_n (pc := 46) X (th_da dtX4_round 25 rfl) rfl ?_
      refine V_iadd (pc := 47) X (th_da dtX4_round 26 rfl) ?_
      refine V_aload_n (pc := 48) X (th_da dtX4_round 27 rfl) rfl ?_
      refine V_getR (pc := 49) (j := 2) (t := 2) X (th_da dtX4_round 28 rfl) wfl_X4_15 iX4 rfl rfl (Nat.le_of_ble_eq_true rfl) rfl ?_
      refine V_iload_n (pc := 52) X (th_da dtX4_round 29 rfl) rfl ?_
      obtain ⟨u2, h2, e2, hf⟩ := th_bd_some hf
      refine V_callSi (pc := 53) (As := [.int y1]) X (th_da dtX4_round 30 rfl) (mX4_at l _ _ _ _ e2) wcd_X4_at wml_X4_71 wst_X4_at win_X4_at hd_X4_at ⟨Nat.le_of_ble_eq_true rfl, Nat.le_of_ble_eq_true rfl⟩ (Nat.le_of_ble_eq_true rfl) rfl ?_
      refine V_bipush (pc := 56) (v := 7) X (th_da dtX4_round 31 rfl) (by decide) ?_
      refine V_iadd (pc := 58) X (th_da dtX4_round 32 rfl) ?_
      obtain ⟨v3, e3, g3, hf⟩ := th_rd_some hf
      refine V_iald (pc := 59) X (th_da dtX4_round 33 rfl) rfl g3 e3 ?_
      obtain ⟨h4, e4, g4, hf⟩ := th_wr_some hf
      refine V_iast (pc := 60) X (th_da dtX4_round 34 rfl) rfl g4 e4 ?_
      refine V_iinc (pc := 61) (v := y1 + 1) (ls2 := [.ref 0, .int (y1 + 1), .null]) X (th_da dtX4_round 35 rfl) rfl rfl (Nat.le_of_ble_eq_true rfl) rfl rfl ?_
      refine V_goto (pc := 64) (tgt := 33) X (th_da dtX4_round 36 rfl) (by decide) ?_
      exact ih _ _ hf
    · rw [if_neg c1] at hf
      refine V_iconst (pc := 67) (v := 0) X (th_da dtX4_round 37 rfl) (by decide) ?_
      refine V_istore_n (pc := 68) (ls2 := [.ref 0, .int 0, .null]) X (th_da dtX4_round 38 rfl) (Nat.le_of_ble_eq_true rfl) rfl rfl ?_
      exact tX4_round_c69 X _ _ _ hf
set_option maxHeartbeats 4000000 in
set_option maxRecDepth 100000 in
theorem tX4_round_c2 (X : th_X p0 s m args meth c D cI cZ ad LM 3 RX4 cX4_round (some .boolean)) : ∀ (n : Nat) (y1 : Int32) (h : th_H), fX4_round_c2 n y1 h = some (rr, hh) → th_V p0 l e { frames := 6, cells := 0, slots := 0, locals := 138 } s m args below meth c D cI cZ ad LM 3 (some (.int rr)) hh 2 [.ref 0, .int y1, .null] [] h := by
  intro n
  induction n with
  | zero => intro y1 h hf; cases hf
  | succ n ih =>
    intro y1 h hf
    rw [fX4_round_c2] at hf
    refine V_iload_n (pc := 2) X (th_da dtX4_round 2 rfl) rfl ?_
    refine V_sipush (pc := 3) (v := 400) X (th_da dtX4_round 3 rfl) (by decide) ?_
    refine V_icmp_ge (pc := 6) (tgt := 31) X (th_da dtX4_round 4 rfl) (by decide) (fun c1 => ?_) (fun c1 => ?_)
    · rw [if_pos c1] at hf
      refine V_aload_n (pc := 9) X (th_da dtX4_round 5 rfl) rfl ?_
      refine V_getR (pc := 10) (j := 6) (t := 6) X (th_da dtX4_round 6 rfl) wfl_X4_28 iX4 rfl rfl (Nat.le_of_ble_eq_true rfl) rfl ?_
      refine V_iload_n (pc := 13) X (th_da dtX4_round 7 rfl) rfl ?_
      refine V_aload_n (pc := 14) X (th_da dtX4_round 8 rfl) rfl ?_
      refine V_getR (pc := 15) (j := 2) (t := 2) X (th_da dtX4_round 9 rfl) wfl_X4_15 iX4 rfl rfl (Nat.le_of_ble_eq_true rfl) rfl ?_
      refine V_sipush (pc := 18) (v := 243) X (th_da dtX4_round 10 rfl) (by decide) ?_
      refine V_iload_n (pc := 21) X (th_da dtX4_round 11 rfl) rfl ?_
      refine V_iadd (pc := 22) X (th_da dtX4_round 12 rfl) ?_
      obtain ⟨v2, e2, g2, hf⟩ := th_rd_some hf
      refine V_iald (pc := 23) X (th_da dtX4_round 13 rfl) rfl g2 e2 ?_
      obtain ⟨h3, e3, g3, hf⟩ := th_wr_some hf
      refine V_iast (pc := 24) X (th_da dtX4_round 14 rfl) rfl g3 e3 ?_
      refine V_iinc (pc := 25) (v := y1 + 1) (ls2 := [.ref 0, .int (y1 + 1), .null]) X (th_da dtX4_round 15 rfl) rfl rfl (Nat.le_of_ble_eq_true rfl) rfl rfl ?_
      refine V_goto (pc := 28) (tgt := 2) X (th_da dtX4_round 16 rfl) (by decide) ?_
      exact ih _ _ hf
    · rw [if_neg c1] at hf
      refine V_iconst (pc := 31) (v := 0) X (th_da dtX4_round 17 rfl) (by decide) ?_
      refine V_istore_n (pc := 32) (ls2 := [.ref 0, .int 0, .null]) X (th_da dtX4_round 18 rfl) (Nat.le_of_ble_eq_true rfl) rfl rfl ?_
      exact tX4_round_c33 X _ _ _ hf
set_option maxHeartbeats 4000000 in
set_option maxRecDepth 100000 in
theorem mX4_round (l : Launch) (h : th_H) (rr : Int32) (hh : th_H) (hf : fX4_round h = some (rr, hh)) : th_MI l LM yX4_round cX4_round 3 (some .boolean) 6 138 [.ref 0] h (some (.int rr)) hh := by
  refine th_MI_of (ls := [.ref 0, .null, .null]) RX4 rfl rfl rfl (Nat.le_of_ble_eq_true rfl) ?_
  intro p0 e s m args below meth c D cI cZ ad X
  unfold fX4_round at hf
  refine V_iconst (pc := 0) (v := 0) X (th_da dtX4_round 0 rfl) (by decide) ?_
  refine V_istore_n (pc := 1) (ls2 := [.ref 0, .int 0, .null]) X (th_da dtX4_round 1 rfl) (Nat.le_of_ble_eq_true rfl) rfl rfl ?_
  exact tX4_round_c2 X _ _ _ hf
end
def fX4_rounds_c27 : Nat → Int32 → Int32 → Int32 → th_H → Option (Int32 × th_H)
  | 0, _, _, _, _ => none
  | n + 1, y1, y2, y3, h =>
    if (y2 < y1 : Prop) then
      if (y3 = 0 : Prop) then
        th_bd (fX4_round h) fun u3 h3 =>
        fX4_rounds_c27 n y1 (y2 + 1) u3 h3
      else
        some (y2, h)
    else
      some (y2, h)
def fX4_rounds (x1 : Int32) (h : th_H) : Option (Int32 × th_H) :=
  th_st (th_up h 0 0 0) fun h1 =>
  th_bd (fX4_in (Int32.toInt64 x1) 1 30 h1) fun u2 h2 =>
  if (u2 = 0 : Prop) then
    th_bd (fX4_refuse 0 h2) fun u4 h4 =>
    some (u4, h4)
  else
    fX4_rounds_c27 1000 x1 0 0 h2
def tbX4_rounds : List (Nat × Instr × Nat) := [(0, .aload_n 0, 1), (1, .iconst 0, 1), (2, .putfield 55, 3), (5, .iload_n 1, 1), (6, .i2l, 1), (7, .lconst 1, 1), (8, .ldc2_w 179, 3), (11, .invokestatic 63, 3), (14, .ifCond .ne 9, 3), (17, .aload_n 0, 1), (18, .iconst 0, 1), (19, .invokevirtual 88, 3), (22, .ireturn, 1), (23, .iconst 0, 1), (24, .istore_n 2, 1), (25, .iconst 0, 1), (26, .istore_n 3, 1), (27, .iload_n 2, 1), (28, .iload_n 1, 1), (29, .if_icmp .ge 18, 3), (32, .iload_n 3, 1), (33, .ifCond .ne 14, 3), (36, .aload_n 0, 1), (37, .invokevirtual 181, 3), (40, .istore_n 3, 1), (41, .iinc 2 1, 3), (44, .goto (-17), 3), (47, .iload_n 2, 1), (48, .ireturn, 1)]
theorem dtX4_rounds : th_dec cX4_rounds tbX4_rounds = true := by decide +kernel
section
variable {p0 : Program} {l : Launch} {e : Env} {s : State} {m : MethodId} {args : Array Value} {below : List Frame} {meth : Method} {c : Code} {D : va_G} {cI cZ : ClassId} {ad : Nat → Nat} {rr : Int32} {hh : th_H}
set_option maxHeartbeats 4000000 in
set_option maxRecDepth 100000 in
theorem tX4_rounds_c27 (X : th_X p0 s m args meth c D cI cZ ad LM 4 RX4 cX4_rounds (some .int)) : ∀ (n : Nat) (y1 : Int32) (y2 : Int32) (y3 : Int32) (h : th_H), fX4_rounds_c27 n y1 y2 y3 h = some (rr, hh) → th_V p0 l e { frames := 7, cells := 0, slots := 0, locals := 160 } s m args below meth c D cI cZ ad LM 4 (some (.int rr)) hh 27 [.ref 0, .int y1, .int y2, .int y3] [] h := by
  intro n
  induction n with
  | zero => intro y1 y2 y3 h hf; cases hf
  | succ n ih =>
    intro y1 y2 y3 h hf
    rw [fX4_rounds_c27] at hf
    refine V_iload_n (pc := 27) X (th_da dtX4_rounds 17 rfl) rfl ?_
    refine V_iload_n (pc := 28) X (th_da dtX4_rounds 18 rfl) rfl ?_
    refine V_icmp_ge (pc := 29) (tgt := 47) X (th_da dtX4_rounds 19 rfl) (by decide) (fun c1 => ?_) (fun c1 => ?_)
    · rw [if_pos c1] at hf
      refine V_iload_n (pc := 32) X (th_da dtX4_rounds 20 rfl) rfl ?_
      refine V_if_ne (pc := 33) (tgt := 47) X (th_da dtX4_rounds 21 rfl) (by decide) (fun c2 => ?_) (fun c2 => ?_)
      · rw [if_pos c2] at hf
        refine V_aload_n (pc := 36) X (th_da dtX4_rounds 22 rfl) rfl ?_
        obtain ⟨u3, h3, e3, hf⟩ := th_bd_some hf
        refine V_callVi (pc := 37) (q := 0) (As := []) X (th_da dtX4_rounds 23 rfl) (mX4_round l _ _ _ e3) wcd_X4_round wml_X4_181 wim_X4_round wse_X4_round win_X4_round hd_X4_round ⟨Nat.le_of_ble_eq_true rfl, Nat.le_of_ble_eq_true rfl⟩ (Nat.le_of_ble_eq_true rfl) rfl rfl rfl ?_
        refine V_istore_n (pc := 40) (ls2 := [.ref 0, .int y1, .int y2, .int u3]) X (th_da dtX4_rounds 24 rfl) (Nat.le_of_ble_eq_true rfl) rfl rfl ?_
        refine V_iinc (pc := 41) (v := y2 + 1) (ls2 := [.ref 0, .int y1, .int (y2 + 1), .int u3]) X (th_da dtX4_rounds 25 rfl) rfl rfl (Nat.le_of_ble_eq_true rfl) rfl rfl ?_
        refine V_goto (pc := 44) (tgt := 27) X (th_da dtX4_rounds 26 rfl) (by decide) ?_
        exact ih _ _ _ _ hf
      · rw [if_neg c2] at hf
        refine V_iload_n (pc := 47) X (th_da dtX4_rounds 27 rfl) rfl ?_
        exact V_iretF (pc := 48) X (th_da dtX4_rounds 28 rfl) hf
    · rw [if_neg c1] at hf
      refine V_iload_n (pc := 47) X (th_da dtX4_rounds 27 rfl) rfl ?_
      exact V_iretF (pc := 48) X (th_da dtX4_rounds 28 rfl) hf
set_option maxHeartbeats 4000000 in
set_option maxRecDepth 100000 in
theorem mX4_rounds (l : Launch) (x1 : Int32) (h : th_H) (rr : Int32) (hh : th_H) (hf : fX4_rounds x1 h = some (rr, hh)) : th_MI l LM yX4_rounds cX4_rounds 4 (some .int) 7 160 [.ref 0, .int x1] h (some (.int rr)) hh := by
  refine th_MI_of (ls := [.ref 0, .int x1, .null, .null]) RX4 rfl rfl rfl (Nat.le_of_ble_eq_true rfl) ?_
  intro p0 e s m args below meth c D cI cZ ad X
  unfold fX4_rounds at hf
  refine V_aload_n (pc := 0) X (th_da dtX4_rounds 0 rfl) rfl ?_
  refine V_iconst (pc := 1) (v := 0) X (th_da dtX4_rounds 1 rfl) (by decide) ?_
  obtain ⟨h1, e1, hf⟩ := th_st_some hf
  refine V_putI (pc := 2) (j := 0) (ty := .int) X (th_da dtX4_rounds 2 rfl) wfl_X4_55 iX4 rfl rfl (Nat.le_of_ble_eq_true rfl) rfl tyX4 tyX4_ok nmX4 rfl (tyX4_ok 0 (Nat.le_of_ble_eq_true rfl)) rfl rfl e1 ?_
  refine V_iload_n (pc := 5) X (th_da dtX4_rounds 3 rfl) rfl ?_
  refine V_i2l (pc := 6) X (th_da dtX4_rounds 4 rfl) ?_
  refine V_lconst (pc := 7) (v := 1) X (th_da dtX4_rounds 5 rfl) (by decide) ?_
  refine V_ldc2 (pc := 8) (v := 30) X (th_da dtX4_rounds 6 rfl) wcl_X4_179 ?_
  obtain ⟨u2, h2, e2, hf⟩ := th_bd_some hf
  refine V_callSi (pc := 11) (As := [.long (Int32.toInt64 x1), .long 1, .long 30]) X (th_da dtX4_rounds 7 rfl) (mX4_in l _ _ _ _ _ _ e2) wcd_X4_in wml_X4_63 wst_X4_in win_X4_in hd_X4_in ⟨Nat.le_of_ble_eq_true rfl, Nat.le_of_ble_eq_true rfl⟩ (Nat.le_of_ble_eq_true rfl) rfl ?_
  refine V_if_ne (pc := 14) (tgt := 23) X (th_da dtX4_rounds 8 rfl) (by decide) (fun c3 => ?_) (fun c3 => ?_)
  · rw [if_pos c3] at hf
    refine V_aload_n (pc := 17) X (th_da dtX4_rounds 9 rfl) rfl ?_
    refine V_iconst (pc := 18) (v := 0) X (th_da dtX4_rounds 10 rfl) (by decide) ?_
    obtain ⟨u4, h4, e4, hf⟩ := th_bd_some hf
    refine V_callVi (pc := 19) (q := 0) (As := [.int 0]) X (th_da dtX4_rounds 11 rfl) (mX4_refuse l _ _ _ _ e4) wcd_X4_refuse wml_X4_88 wim_X4_refuse wse_X4_refuse win_X4_refuse hd_X4_refuse ⟨Nat.le_of_ble_eq_true rfl, Nat.le_of_ble_eq_true rfl⟩ (Nat.le_of_ble_eq_true rfl) rfl rfl rfl ?_
    exact V_iretF (pc := 22) X (th_da dtX4_rounds 12 rfl) hf
  · rw [if_neg c3] at hf
    refine V_iconst (pc := 23) (v := 0) X (th_da dtX4_rounds 13 rfl) (by decide) ?_
    refine V_istore_n (pc := 24) (ls2 := [.ref 0, .int x1, .int 0, .null]) X (th_da dtX4_rounds 14 rfl) (Nat.le_of_ble_eq_true rfl) rfl rfl ?_
    refine V_iconst (pc := 25) (v := 0) X (th_da dtX4_rounds 15 rfl) (by decide) ?_
    refine V_istore_n (pc := 26) (ls2 := [.ref 0, .int x1, .int 0, .int 0]) X (th_da dtX4_rounds 16 rfl) (Nat.le_of_ble_eq_true rfl) rfl rfl ?_
    exact tX4_rounds_c27 X _ _ _ _ _ hf
end
def fX4_forget_c41 (k7 : Int32 → th_H → Option (Int32 × th_H)) : Nat → Int32 → Int32 → th_H → Option (Int32 × th_H)
  | 0, _, _, _ => none
  | n + 1, y1, y2, h =>
    if (y2 < 10 : Prop) then
      th_bd (fX4_knowsNothing y1 y2 h) fun _u2 h2 =>
      fX4_forget_c41 k7 n y1 (y2 + 1) h2
    else
      k7 (y1 + 1) h
def fX4_forget_c7 : Nat → Int32 → th_H → Option (Int32 × th_H)
  | 0, _, _ => none
  | n + 1, y1, h =>
    if (y1 < 20 : Prop) then
      th_bd (fX4_at y1 h) fun u2 h2 =>
      th_wr h2 2 643 (u2 + 7) 0 fun h3 =>
      th_bd (fX4_at y1 h3) fun u4 h4 =>
      th_wr h4 2 643 (u4 + 8) 0 fun h5 =>
      fX4_forget_c41 (fX4_forget_c7 n) 1000 y1 0 h5
    else
      th_bd (fX4_flowMany h) fun u6 h6 =>
      some (u6, h6)
def fX4_forget (h : th_H) : Option (Int32 × th_H) :=
  th_st (th_up h 0 0 0) fun h1 =>
  fX4_forget_c7 1000 0 h1
def tbX4_forget : List (Nat × Instr × Nat) := [(0, .aload_n 0, 1), (1, .iconst 0, 1), (2, .putfield 55, 3), (5, .iconst 0, 1), (6, .istore_n 1, 1), (7, .iload_n 1, 1), (8, .bipush 20, 2), (10, .if_icmp .ge 55, 3), (13, .aload_n 0, 1), (14, .getfield 15, 3), (17, .iload_n 1, 1), (18, .invokestatic 71, 3), (21, .bipush 7, 2), (23, .iadd, 1), (24, .iconst 0, 1), (25, .iastore, 1), (26, .aload_n 0, 1), (27, .getfield 15, 3), (30, .iload_n 1, 1), (31, .invokestatic 71, 3), (34, .bipush 8, 2), (36, .iadd, 1), (37, .iconst 0, 1), (38, .iastore, 1), (39, .iconst 0, 1), (40, .istore_n 2, 1), (41, .iload_n 2, 1), (42, .bipush 10, 2), (44, .if_icmp .ge 15, 3), (47, .aload_n 0, 1), (48, .iload_n 1, 1), (49, .iload_n 2, 1), (50, .invokevirtual 94, 3), (53, .iinc 2 1, 3), (56, .goto (-15), 3), (59, .iinc 1 1, 3), (62, .goto (-55), 3), (65, .aload_n 0, 1), (66, .invokevirtual 128, 3), (69, .ireturn, 1)]
theorem dtX4_forget : th_dec cX4_forget tbX4_forget = true := by decide +kernel
section
variable {p0 : Program} {l : Launch} {e : Env} {s : State} {m : MethodId} {args : Array Value} {below : List Frame} {meth : Method} {c : Code} {D : va_G} {cI cZ : ClassId} {ad : Nat → Nat} {rr : Int32} {hh : th_H}
set_option maxHeartbeats 4000000 in
set_option maxRecDepth 100000 in
theorem tX4_forget_c41 (X : th_X p0 s m args meth c D cI cZ ad LM 3 RX4 cX4_forget (some .int)) (k7 : Int32 → th_H → Option (Int32 × th_H)) (hk7 : ∀ (y1 : Int32) (h : th_H), k7 y1 h = some (rr, hh) → th_V p0 l e { frames := 2, cells := 0, slots := 0, locals := 42 } s m args below meth c D cI cZ ad LM 3 (some (.int rr)) hh 7 [.ref 0, .int y1, .null] [] h) : ∀ (n : Nat) (y1 : Int32) (y2 : Int32) (h : th_H), fX4_forget_c41 k7 n y1 y2 h = some (rr, hh) → th_V p0 l e { frames := 2, cells := 0, slots := 0, locals := 42 } s m args below meth c D cI cZ ad LM 3 (some (.int rr)) hh 41 [.ref 0, .int y1, .int y2] [] h := by
  intro n
  induction n with
  | zero => intro y1 y2 h hf; cases hf
  | succ n ih =>
    intro y1 y2 h hf
    rw [fX4_forget_c41] at hf
    refine V_iload_n (pc := 41) X (th_da dtX4_forget 26 rfl) rfl ?_
    refine V_bipush (pc := 42) (v := 10) X (th_da dtX4_forget 27 rfl) (by decide) ?_
    refine V_icmp_ge (pc := 44) (tgt := 59) X (th_da dtX4_forget 28 rfl) (by decide) (fun c1 => ?_) (fun c1 => ?_)
    · rw [if_pos c1] at hf
      refine V_aload_n (pc := 47) X (th_da dtX4_forget 29 rfl) rfl ?_
      refine V_iload_n (pc := 48) X (th_da dtX4_forget 30 rfl) rfl ?_
      refine V_iload_n (pc := 49) X (th_da dtX4_forget 31 rfl) rfl ?_
      obtain ⟨u2, h2, e2, hf⟩ := th_bd_some hf
      refine V_callVv (pc := 50) (q := 0) (As := [.int y1, .int y2]) X (th_da dtX4_forget 32 rfl) (mX4_knowsNothing l _ _ _ _ _ e2) wcd_X4_knowsNothing wml_X4_94 wim_X4_knowsNothing wse_X4_knowsNothing win_X4_knowsNothing hd_X4_knowsNothing ⟨Nat.le_of_ble_eq_true rfl, Nat.le_of_ble_eq_true rfl⟩ (Nat.le_of_ble_eq_true rfl) rfl rfl rfl ?_
      refine V_iinc (pc := 53) (v := y2 + 1) (ls2 := [.ref 0, .int y1, .int (y2 + 1)]) X (th_da dtX4_forget 33 rfl) rfl rfl (Nat.le_of_ble_eq_true rfl) rfl rfl ?_
      refine V_goto (pc := 56) (tgt := 41) X (th_da dtX4_forget 34 rfl) (by decide) ?_
      exact ih _ _ _ hf
    · rw [if_neg c1] at hf
      refine V_iinc (pc := 59) (v := y1 + 1) (ls2 := [.ref 0, .int (y1 + 1), .int y2]) X (th_da dtX4_forget 35 rfl) rfl rfl (Nat.le_of_ble_eq_true rfl) rfl rfl ?_
      refine V_goto (pc := 62) (tgt := 7) X (th_da dtX4_forget 36 rfl) (by decide) ?_
      refine V_mask [true, true, false] (ls2 := [.ref 0, .int (y1 + 1), .null]) rfl ?_
      exact hk7 _ _ hf
set_option maxHeartbeats 4000000 in
set_option maxRecDepth 100000 in
theorem tX4_forget_c7 (X : th_X p0 s m args meth c D cI cZ ad LM 3 RX4 cX4_forget (some .int)) : ∀ (n : Nat) (y1 : Int32) (h : th_H), fX4_forget_c7 n y1 h = some (rr, hh) → th_V p0 l e { frames := 2, cells := 0, slots := 0, locals := 42 } s m args below meth c D cI cZ ad LM 3 (some (.int rr)) hh 7 [.ref 0, .int y1, .null] [] h := by
  intro n
  induction n with
  | zero => intro y1 h hf; cases hf
  | succ n ih =>
    intro y1 h hf
    rw [fX4_forget_c7] at hf
    refine V_iload_n (pc := 7) X (th_da dtX4_forget 5 rfl) rfl ?_
    refine V_bipush (pc := 8) (v := 20) X (th_da dtX4_forget 6 rfl) (by decide) ?_
    refine V_icmp_ge (pc := 10) (tgt := 65) X (th_da dtX4_forget 7 rfl) (by decide) (fun c1 => ?_) (fun c1 => ?_)
    · rw [if_pos c1] at hf
      refine V_aload_n (pc := 13) X (th_da dtX4_forget 8 rfl) rfl ?_
      refine V_getR (pc := 14) (j := 2) (t := 2) X (th_da dtX4_forget 9 rfl) wfl_X4_15 iX4 rfl rfl (Nat.le_of_ble_eq_true rfl) rfl ?_
      refine V_iload_n (pc := 17) X (th_da dtX4_forget 10 rfl) rfl ?_
      obtain ⟨u2, h2, e2, hf⟩ := th_bd_some hf
      refine V_callSi (pc := 18) (As := [.int y1]) X (th_da dtX4_forget 11 rfl) (mX4_at l _ _ _ _ e2) wcd_X4_at wml_X4_71 wst_X4_at win_X4_at hd_X4_at ⟨Nat.le_of_ble_eq_true rfl, Nat.le_of_ble_eq_true rfl⟩ (Nat.le_of_ble_eq_true rfl) rfl ?_
      refine V_bipush (pc := 21) (v := 7) X (th_da dtX4_forget 12 rfl) (by decide) ?_
      refine V_iadd (pc := 23) X (th_da dtX4_forget 13 rfl) ?_
      refine V_iconst (pc := 24) (v := 0) X (th_da dtX4_forget 14 rfl) (by decide) ?_
      obtain ⟨h3, e3, g3, hf⟩ := th_wr_some hf
      refine V_iast (pc := 25) X (th_da dtX4_forget 15 rfl) rfl g3 e3 ?_
      refine V_aload_n (pc := 26) X (th_da dtX4_forget 16 rfl) rfl ?_
      refine V_getR (pc := 27) (j := 2) (t := 2) X (th_da dtX4_forget 17 rfl) wfl_X4_15 iX4 rfl rfl (Nat.le_of_ble_eq_true rfl) rfl ?_
      refine V_iload_n (pc := 30) X (th_da dtX4_forget 18 rfl) rfl ?_
      obtain ⟨u4, h4, e4, hf⟩ := th_bd_some hf
      refine V_callSi (pc := 31) (As := [.int y1]) X (th_da dtX4_forget 19 rfl) (mX4_at l _ _ _ _ e4) wcd_X4_at wml_X4_71 wst_X4_at win_X4_at hd_X4_at ⟨Nat.le_of_ble_eq_true rfl, Nat.le_of_ble_eq_true rfl⟩ (Nat.le_of_ble_eq_true rfl) rfl ?_
      refine V_bipush (pc := 34) (v := 8) X (th_da dtX4_forget 20 rfl) (by decide) ?_
      refine V_iadd (pc := 36) X (th_da dtX4_forget 21 rfl) ?_
      refine V_iconst (pc := 37) (v := 0) X (th_da dtX4_forget 22 rfl) (by decide) ?_
      obtain ⟨h5, e5, g5, hf⟩ := th_wr_some hf
      refine V_iast (pc := 38) X (th_da dtX4_forget 23 rfl) rfl g5 e5 ?_
      refine V_iconst (pc := 39) (v := 0) X (th_da dtX4_forget 24 rfl) (by decide) ?_
      refine V_istore_n (pc := 40) (ls2 := [.ref 0, .int y1, .int 0]) X (th_da dtX4_forget 25 rfl) (Nat.le_of_ble_eq_true rfl) rfl rfl ?_
      exact tX4_forget_c41 X _ ih _ _ _ _ hf
    · rw [if_neg c1] at hf
      refine V_aload_n (pc := 65) X (th_da dtX4_forget 37 rfl) rfl ?_
      obtain ⟨u6, h6, e6, hf⟩ := th_bd_some hf
      refine V_callVi (pc := 66) (q := 0) (As := []) X (th_da dtX4_forget 38 rfl) (mX4_flowMany l _ _ _ e6) wcd_X4_flowMany wml_X4_128 wim_X4_flowMany wse_X4_flowMany win_X4_flowMany hd_X4_flowMany ⟨Nat.le_of_ble_eq_true rfl, Nat.le_of_ble_eq_true rfl⟩ (Nat.le_of_ble_eq_true rfl) rfl rfl rfl ?_
      exact V_iretF (pc := 69) X (th_da dtX4_forget 39 rfl) hf
set_option maxHeartbeats 4000000 in
set_option maxRecDepth 100000 in
theorem mX4_forget (l : Launch) (h : th_H) (rr : Int32) (hh : th_H) (hf : fX4_forget h = some (rr, hh)) : th_MI l LM yX4_forget cX4_forget 3 (some .int) 2 42 [.ref 0] h (some (.int rr)) hh := by
  refine th_MI_of (ls := [.ref 0, .null, .null]) RX4 rfl rfl rfl (Nat.le_of_ble_eq_true rfl) ?_
  intro p0 e s m args below meth c D cI cZ ad X
  unfold fX4_forget at hf
  refine V_aload_n (pc := 0) X (th_da dtX4_forget 0 rfl) rfl ?_
  refine V_iconst (pc := 1) (v := 0) X (th_da dtX4_forget 1 rfl) (by decide) ?_
  obtain ⟨h1, e1, hf⟩ := th_st_some hf
  refine V_putI (pc := 2) (j := 0) (ty := .int) X (th_da dtX4_forget 2 rfl) wfl_X4_55 iX4 rfl rfl (Nat.le_of_ble_eq_true rfl) rfl tyX4 tyX4_ok nmX4 rfl (tyX4_ok 0 (Nat.le_of_ble_eq_true rfl)) rfl rfl e1 ?_
  refine V_iconst (pc := 5) (v := 0) X (th_da dtX4_forget 3 rfl) (by decide) ?_
  refine V_istore_n (pc := 6) (ls2 := [.ref 0, .int 0, .null]) X (th_da dtX4_forget 4 rfl) (Nat.le_of_ble_eq_true rfl) rfl rfl ?_
  exact tX4_forget_c7 X _ _ _ hf
end
def fX4_fairRate (x1 : Int32) (h : th_H) : Option (Int32 × th_H) :=
  th_rd h 7 20 x1 fun v1 =>
  th_bd (fX4_rate x1 v1 h) fun u2 h2 =>
  some (u2, h2)
def tbX4_fairRate : List (Nat × Instr × Nat) := [(0, .aload_n 0, 1), (1, .iload_n 1, 1), (2, .aload_n 0, 1), (3, .getfield 31, 3), (6, .iload_n 1, 1), (7, .iaload, 1), (8, .invokevirtual 151, 3), (11, .ireturn, 1)]
theorem dtX4_fairRate : th_dec cX4_fairRate tbX4_fairRate = true := by decide +kernel
section
variable {p0 : Program} {l : Launch} {e : Env} {s : State} {m : MethodId} {args : Array Value} {below : List Frame} {meth : Method} {c : Code} {D : va_G} {cI cZ : ClassId} {ad : Nat → Nat} {rr : Int32} {hh : th_H}
set_option maxHeartbeats 4000000 in
set_option maxRecDepth 100000 in
theorem mX4_fairRate (l : Launch) (x1 : Int32) (h : th_H) (rr : Int32) (hh : th_H) (hf : fX4_fairRate x1 h = some (rr, hh)) : th_MI l LM yX4_fairRate cX4_fairRate 2 (some .int) 2 43 [.ref 0, .int x1] h (some (.int rr)) hh := by
  refine th_MI_of (ls := [.ref 0, .int x1]) RX4 rfl rfl rfl (Nat.le_of_ble_eq_true rfl) ?_
  intro p0 e s m args below meth c D cI cZ ad X
  unfold fX4_fairRate at hf
  refine V_aload_n (pc := 0) X (th_da dtX4_fairRate 0 rfl) rfl ?_
  refine V_iload_n (pc := 1) X (th_da dtX4_fairRate 1 rfl) rfl ?_
  refine V_aload_n (pc := 2) X (th_da dtX4_fairRate 2 rfl) rfl ?_
  refine V_getR (pc := 3) (j := 7) (t := 7) X (th_da dtX4_fairRate 3 rfl) wfl_X4_31 iX4 rfl rfl (Nat.le_of_ble_eq_true rfl) rfl ?_
  refine V_iload_n (pc := 6) X (th_da dtX4_fairRate 4 rfl) rfl ?_
  obtain ⟨v1, e1, g1, hf⟩ := th_rd_some hf
  refine V_iald (pc := 7) X (th_da dtX4_fairRate 5 rfl) rfl g1 e1 ?_
  obtain ⟨u2, h2, e2, hf⟩ := th_bd_some hf
  refine V_callVi (pc := 8) (q := 0) (As := [.int x1, .int v1]) X (th_da dtX4_fairRate 6 rfl) (mX4_rate l _ _ _ _ _ e2) wcd_X4_rate wml_X4_151 wim_X4_rate wse_X4_rate win_X4_rate hd_X4_rate ⟨Nat.le_of_ble_eq_true rfl, Nat.le_of_ble_eq_true rfl⟩ (Nat.le_of_ble_eq_true rfl) rfl rfl rfl ?_
  exact V_iretF (pc := 11) X (th_da dtX4_fairRate 7 rfl) hf
end
def fX4_waterBy_c5 : Nat → Int32 → Int32 → Int64 → Int32 → th_H → Option (Int64 × th_H)
  | 0, _, _, _, _, _ => none
  | n + 1, y1, y2, y3, y5, h =>
    if (y5 < 20 : Prop) then
      th_bd (fX4_goesOver y5 y1 h) fun u2 h2 =>
      if (u2 = 0 : Prop) then
        fX4_waterBy_c5 n y1 y2 (y3 + 0) (y5 + 1) h2
      else
        th_rd h2 7 20 y5 fun v4 =>
        if (v4 = (-1) : Prop) then
          th_bd (fX4_rate y5 y2 h2) fun u6 h6 =>
          fX4_waterBy_c5 n y1 y2 (y3 + (Int32.toInt64 u6)) (y5 + 1) h6
        else
          th_rd h2 7 20 y5 fun v7 =>
          th_bd (fX4_rate y5 v7 h2) fun u8 h8 =>
          fX4_waterBy_c5 n y1 y2 (y3 + (Int32.toInt64 u8)) (y5 + 1) h8
    else
      some (y3, h)
def fX4_waterBy (x1 : Int32) (x2 : Int32) (h : th_H) : Option (Int64 × th_H) :=
  fX4_waterBy_c5 1000 x1 x2 0 0 h
def tbX4_waterBy : List (Nat × Instr × Nat) := [(0, .lconst 0, 1), (1, .lstore_n 3, 1), (2, .iconst 0, 1), (3, .istore 5, 2), (5, .iload 5, 2), (7, .bipush 20, 2), (9, .if_icmp .ge 55, 3), (12, .lload_n 3, 1), (13, .aload_n 0, 1), (14, .iload 5, 2), (16, .iload_n 1, 1), (17, .invokevirtual 75, 3), (20, .ifCond .eq 35, 3), (23, .aload_n 0, 1), (24, .iload 5, 2), (26, .aload_n 0, 1), (27, .getfield 31, 3), (30, .iload 5, 2), (32, .iaload, 1), (33, .iconst (-1), 1), (34, .if_icmp .ne 7, 3), (37, .iload_n 2, 1), (38, .goto 10, 3), (41, .aload_n 0, 1), (42, .getfield 31, 3), (45, .iload 5, 2), (47, .iaload, 1), (48, .invokevirtual 151, 3), (51, .i2l, 1), (52, .goto 4, 3), (55, .lconst 0, 1), (56, .ladd, 1), (57, .lstore_n 3, 1), (58, .iinc 5 1, 3), (61, .goto (-56), 3), (64, .lload_n 3, 1), (65, .lreturn, 1)]
theorem dtX4_waterBy : th_dec cX4_waterBy tbX4_waterBy = true := by decide +kernel
section
variable {p0 : Program} {l : Launch} {e : Env} {s : State} {m : MethodId} {args : Array Value} {below : List Frame} {meth : Method} {c : Code} {D : va_G} {cI cZ : ClassId} {ad : Nat → Nat} {rr : Int64} {hh : th_H}
set_option maxHeartbeats 4000000 in
set_option maxRecDepth 100000 in
theorem tX4_waterBy_c5 (X : th_X p0 s m args meth c D cI cZ ad LM 6 RX4 cX4_waterBy (some .long)) : ∀ (n : Nat) (y1 : Int32) (y2 : Int32) (y3 : Int64) (y5 : Int32) (h : th_H), fX4_waterBy_c5 n y1 y2 y3 y5 h = some (rr, hh) → th_V p0 l e { frames := 2, cells := 0, slots := 0, locals := 43 } s m args below meth c D cI cZ ad LM 6 (some (.long rr)) hh 5 [.ref 0, .int y1, .int y2, .long y3, .null, .int y5] [] h := by
  intro n
  induction n with
  | zero => intro y1 y2 y3 y5 h hf; cases hf
  | succ n ih =>
    intro y1 y2 y3 y5 h hf
    rw [fX4_waterBy_c5] at hf
    refine V_iload (pc := 5) X (th_da dtX4_waterBy 4 rfl) rfl ?_
    refine V_bipush (pc := 7) (v := 20) X (th_da dtX4_waterBy 5 rfl) (by decide) ?_
    refine V_icmp_ge (pc := 9) (tgt := 64) X (th_da dtX4_waterBy 6 rfl) (by decide) (fun c1 => ?_) (fun c1 => ?_)
    · rw [if_pos c1] at hf
      refine V_lload_n (pc := 12) X (th_da dtX4_waterBy 7 rfl) rfl ?_
      refine V_aload_n (pc := 13) X (th_da dtX4_waterBy 8 rfl) rfl ?_
      refine V_iload (pc := 14) X (th_da dtX4_waterBy 9 rfl) rfl ?_
      refine V_iload_n (pc := 16) X (th_da dtX4_waterBy 10 rfl) rfl ?_
      obtain ⟨u2, h2, e2, hf⟩ := th_bd_some hf
      refine V_callVi (pc := 17) (q := 0) (As := [.int y5, .int y1]) X (th_da dtX4_waterBy 11 rfl) (mX4_goesOver l _ _ _ _ _ e2) wcd_X4_goesOver wml_X4_75 wim_X4_goesOver wse_X4_goesOver win_X4_goesOver hd_X4_goesOver ⟨Nat.le_of_ble_eq_true rfl, Nat.le_of_ble_eq_true rfl⟩ (Nat.le_of_ble_eq_true rfl) rfl rfl rfl ?_
      refine V_if_eq (pc := 20) (tgt := 55) X (th_da dtX4_waterBy 12 rfl) (by decide) (fun c3 => ?_) (fun c3 => ?_)
      · rw [if_pos c3] at hf
        refine V_lconst (pc := 55) (v := 0) X (th_da dtX4_waterBy 30 rfl) (by decide) ?_
        refine V_ladd (pc := 56) X (th_da dtX4_waterBy 31 rfl) ?_
        refine V_lstore_n (pc := 57) (ls2 := [.ref 0, .int y1, .int y2, .long (y3 + 0), .null, .int y5]) X (th_da dtX4_waterBy 32 rfl) (Nat.le_of_ble_eq_true rfl) rfl rfl ?_
        refine V_iinc (pc := 58) (v := y5 + 1) (ls2 := [.ref 0, .int y1, .int y2, .long (y3 + 0), .null, .int (y5 + 1)]) X (th_da dtX4_waterBy 33 rfl) rfl rfl (Nat.le_of_ble_eq_true rfl) rfl rfl ?_
        refine V_goto (pc := 61) (tgt := 5) X (th_da dtX4_waterBy 34 rfl) (by decide) ?_
        exact ih _ _ _ _ _ hf
      · rw [if_neg c3] at hf
        refine V_aload_n (pc := 23) X (th_da dtX4_waterBy 13 rfl) rfl ?_
        refine V_iload (pc := 24) X (th_da dtX4_waterBy 14 rfl) rfl ?_
        refine V_aload_n (pc := 26) X (th_da dtX4_waterBy 15 rfl) rfl ?_
        refine V_getR (pc := 27) (j := 7) (t := 7) X (th_da dtX4_waterBy 16 rfl) wfl_X4_31 iX4 rfl rfl (Nat.le_of_ble_eq_true rfl) rfl ?_
        refine V_iload (pc := 30) X (th_da dtX4_waterBy 17 rfl) rfl ?_
        obtain ⟨v4, e4, g4, hf⟩ := th_rd_some hf
        refine V_iald (pc := 32) X (th_da dtX4_waterBy 18 rfl) rfl g4 e4 ?_
        refine V_iconst (pc := 33) (v := (-1)) X (th_da dtX4_waterBy 19 rfl) (by decide) ?_
        refine V_icmp_ne (pc := 34) (tgt := 41) X (th_da dtX4_waterBy 20 rfl) (by decide) (fun c5 => ?_) (fun c5 => ?_)
        · rw [if_pos c5] at hf
          refine V_iload_n (pc := 37) X (th_da dtX4_waterBy 21 rfl) rfl ?_
          refine V_goto (pc := 38) (tgt := 48) X (th_da dtX4_waterBy 22 rfl) (by decide) ?_
          obtain ⟨u6, h6, e6, hf⟩ := th_bd_some hf
          refine V_callVi (pc := 48) (q := 0) (As := [.int y5, .int y2]) X (th_da dtX4_waterBy 27 rfl) (mX4_rate l _ _ _ _ _ e6) wcd_X4_rate wml_X4_151 wim_X4_rate wse_X4_rate win_X4_rate hd_X4_rate ⟨Nat.le_of_ble_eq_true rfl, Nat.le_of_ble_eq_true rfl⟩ (Nat.le_of_ble_eq_true rfl) rfl rfl rfl ?_
          refine V_i2l (pc := 51) X (th_da dtX4_waterBy 28 rfl) ?_
          refine V_goto (pc := 52) (tgt := 56) X (th_da dtX4_waterBy 29 rfl) (by decide) ?_
          refine V_ladd (pc := 56) X (th_da dtX4_waterBy 31 rfl) ?_
          refine V_lstore_n (pc := 57) (ls2 := [.ref 0, .int y1, .int y2, .long (y3 + (Int32.toInt64 u6)), .null, .int y5]) X (th_da dtX4_waterBy 32 rfl) (Nat.le_of_ble_eq_true rfl) rfl rfl ?_
          refine V_iinc (pc := 58) (v := y5 + 1) (ls2 := [.ref 0, .int y1, .int y2, .long (y3 + (Int32.toInt64 u6)), .null, .int (y5 + 1)]) X (th_da dtX4_waterBy 33 rfl) rfl rfl (Nat.le_of_ble_eq_true rfl) rfl rfl ?_
          refine V_goto (pc := 61) (tgt := 5) X (th_da dtX4_waterBy 34 rfl) (by decide) ?_
          exact ih _ _ _ _ _ hf
        · rw [if_neg c5] at hf
          refine V_aload_n (pc := 41) X (th_da dtX4_waterBy 23 rfl) rfl ?_
          refine V_getR (pc := 42) (j := 7) (t := 7) X (th_da dtX4_waterBy 24 rfl) wfl_X4_31 iX4 rfl rfl (Nat.le_of_ble_eq_true rfl) rfl ?_
          refine V_iload (pc := 45) X (th_da dtX4_waterBy 25 rfl) rfl ?_
          obtain ⟨v7, e7, g7, hf⟩ := th_rd_some hf
          refine V_iald (pc := 47) X (th_da dtX4_waterBy 26 rfl) rfl g7 e7 ?_
          obtain ⟨u8, h8, e8, hf⟩ := th_bd_some hf
          refine V_callVi (pc := 48) (q := 0) (As := [.int y5, .int v7]) X (th_da dtX4_waterBy 27 rfl) (mX4_rate l _ _ _ _ _ e8) wcd_X4_rate wml_X4_151 wim_X4_rate wse_X4_rate win_X4_rate hd_X4_rate ⟨Nat.le_of_ble_eq_true rfl, Nat.le_of_ble_eq_true rfl⟩ (Nat.le_of_ble_eq_true rfl) rfl rfl rfl ?_
          refine V_i2l (pc := 51) X (th_da dtX4_waterBy 28 rfl) ?_
          refine V_goto (pc := 52) (tgt := 56) X (th_da dtX4_waterBy 29 rfl) (by decide) ?_
          refine V_ladd (pc := 56) X (th_da dtX4_waterBy 31 rfl) ?_
          refine V_lstore_n (pc := 57) (ls2 := [.ref 0, .int y1, .int y2, .long (y3 + (Int32.toInt64 u8)), .null, .int y5]) X (th_da dtX4_waterBy 32 rfl) (Nat.le_of_ble_eq_true rfl) rfl rfl ?_
          refine V_iinc (pc := 58) (v := y5 + 1) (ls2 := [.ref 0, .int y1, .int y2, .long (y3 + (Int32.toInt64 u8)), .null, .int (y5 + 1)]) X (th_da dtX4_waterBy 33 rfl) rfl rfl (Nat.le_of_ble_eq_true rfl) rfl rfl ?_
          refine V_goto (pc := 61) (tgt := 5) X (th_da dtX4_waterBy 34 rfl) (by decide) ?_
          exact ih _ _ _ _ _ hf
    · rw [if_neg c1] at hf
      refine V_lload_n (pc := 64) X (th_da dtX4_waterBy 35 rfl) rfl ?_
      exact V_lretF (pc := 65) X (th_da dtX4_waterBy 36 rfl) hf
set_option maxHeartbeats 4000000 in
set_option maxRecDepth 100000 in
theorem mX4_waterBy (l : Launch) (x1 : Int32) (x2 : Int32) (h : th_H) (rr : Int64) (hh : th_H) (hf : fX4_waterBy x1 x2 h = some (rr, hh)) : th_MI l LM yX4_waterBy cX4_waterBy 6 (some .long) 2 43 [.ref 0, .int x1, .int x2] h (some (.long rr)) hh := by
  refine th_MI_of (ls := [.ref 0, .int x1, .int x2, .null, .null, .null]) RX4 rfl rfl rfl (Nat.le_of_ble_eq_true rfl) ?_
  intro p0 e s m args below meth c D cI cZ ad X
  unfold fX4_waterBy at hf
  refine V_lconst (pc := 0) (v := 0) X (th_da dtX4_waterBy 0 rfl) (by decide) ?_
  refine V_lstore_n (pc := 1) (ls2 := [.ref 0, .int x1, .int x2, .long 0, .null, .null]) X (th_da dtX4_waterBy 1 rfl) (Nat.le_of_ble_eq_true rfl) rfl rfl ?_
  refine V_iconst (pc := 2) (v := 0) X (th_da dtX4_waterBy 2 rfl) (by decide) ?_
  refine V_istore (pc := 3) (ls2 := [.ref 0, .int x1, .int x2, .long 0, .null, .int 0]) X (th_da dtX4_waterBy 3 rfl) (Nat.le_of_ble_eq_true rfl) rfl rfl ?_
  exact tX4_waterBy_c5 X _ _ _ _ _ _ hf
end
def fX4_tideOf_c5 : Nat → Int32 → Int32 → Int32 → th_H → Option (Int32 × th_H)
  | 0, _, _, _, _ => none
  | n + 1, y1, y2, y3, h =>
    if (1 < (y3 - y2) : Prop) then
      th_bd (fX4_waterBy y1 ((y2 + y3) / 2) h) fun u2 h2 =>
      th_rd h2 2 643 ((3 : Int32) + y1) fun v3 =>
      if (0 < (lg_cmp u2 (Int32.toInt64 v3)) : Prop) then
        fX4_tideOf_c5 n y1 y2 ((y2 + y3) / 2) h2
      else
        fX4_tideOf_c5 n y1 ((y2 + y3) / 2) y3 h2
    else
      some (y2, h)
def fX4_tideOf (x1 : Int32) (h : th_H) : Option (Int32 × th_H) :=
  fX4_tideOf_c5 1000 x1 0 1000001 h
def tbX4_tideOf : List (Nat × Instr × Nat) := [(0, .iconst 0, 1), (1, .istore_n 2, 1), (2, .ldc 154, 2), (4, .istore_n 3, 1), (5, .iload_n 3, 1), (6, .iload_n 2, 1), (7, .isub, 1), (8, .iconst 1, 1), (9, .if_icmp .le 42, 3), (12, .iload_n 2, 1), (13, .iload_n 3, 1), (14, .iadd, 1), (15, .iconst 2, 1), (16, .idiv, 1), (17, .istore 4, 2), (19, .aload_n 0, 1), (20, .iload_n 1, 1), (21, .iload 4, 2), (23, .invokevirtual 184, 3), (26, .aload_n 0, 1), (27, .getfield 15, 3), (30, .iconst 3, 1), (31, .iload_n 1, 1), (32, .iadd, 1), (33, .iaload, 1), (34, .i2l, 1), (35, .lcmp, 1), (36, .ifCond .gt 9, 3), (39, .iload 4, 2), (41, .istore_n 2, 1), (42, .goto 6, 3), (45, .iload 4, 2), (47, .istore_n 3, 1), (48, .goto (-43), 3), (51, .iload_n 2, 1), (52, .ireturn, 1)]
theorem dtX4_tideOf : th_dec cX4_tideOf tbX4_tideOf = true := by decide +kernel
section
variable {p0 : Program} {l : Launch} {e : Env} {s : State} {m : MethodId} {args : Array Value} {below : List Frame} {meth : Method} {c : Code} {D : va_G} {cI cZ : ClassId} {ad : Nat → Nat} {rr : Int32} {hh : th_H}
set_option maxHeartbeats 4000000 in
set_option maxRecDepth 100000 in
theorem tX4_tideOf_c5 (X : th_X p0 s m args meth c D cI cZ ad LM 5 RX4 cX4_tideOf (some .int)) : ∀ (n : Nat) (y1 : Int32) (y2 : Int32) (y3 : Int32) (h : th_H), fX4_tideOf_c5 n y1 y2 y3 h = some (rr, hh) → th_V p0 l e { frames := 3, cells := 0, slots := 0, locals := 68 } s m args below meth c D cI cZ ad LM 5 (some (.int rr)) hh 5 [.ref 0, .int y1, .int y2, .int y3, .null] [] h := by
  intro n
  induction n with
  | zero => intro y1 y2 y3 h hf; cases hf
  | succ n ih =>
    intro y1 y2 y3 h hf
    rw [fX4_tideOf_c5] at hf
    refine V_iload_n (pc := 5) X (th_da dtX4_tideOf 4 rfl) rfl ?_
    refine V_iload_n (pc := 6) X (th_da dtX4_tideOf 5 rfl) rfl ?_
    refine V_isub (pc := 7) X (th_da dtX4_tideOf 6 rfl) ?_
    refine V_iconst (pc := 8) (v := 1) X (th_da dtX4_tideOf 7 rfl) (by decide) ?_
    refine V_icmp_le (pc := 9) (tgt := 51) X (th_da dtX4_tideOf 8 rfl) (by decide) (fun c1 => ?_) (fun c1 => ?_)
    · rw [if_pos c1] at hf
      refine V_iload_n (pc := 12) X (th_da dtX4_tideOf 9 rfl) rfl ?_
      refine V_iload_n (pc := 13) X (th_da dtX4_tideOf 10 rfl) rfl ?_
      refine V_iadd (pc := 14) X (th_da dtX4_tideOf 11 rfl) ?_
      refine V_iconst (pc := 15) (v := 2) X (th_da dtX4_tideOf 12 rfl) (by decide) ?_
      refine V_idiv (pc := 16) X (th_da dtX4_tideOf 13 rfl) (by decide) ?_
      refine V_istore (pc := 17) (ls2 := [.ref 0, .int y1, .int y2, .int y3, .int ((y2 + y3) / 2)]) X (th_da dtX4_tideOf 14 rfl) (Nat.le_of_ble_eq_true rfl) rfl rfl ?_
      refine V_aload_n (pc := 19) X (th_da dtX4_tideOf 15 rfl) rfl ?_
      refine V_iload_n (pc := 20) X (th_da dtX4_tideOf 16 rfl) rfl ?_
      refine V_iload (pc := 21) X (th_da dtX4_tideOf 17 rfl) rfl ?_
      obtain ⟨u2, h2, e2, hf⟩ := th_bd_some hf
      refine V_callVl (pc := 23) (q := 0) (As := [.int y1, .int ((y2 + y3) / 2)]) X (th_da dtX4_tideOf 18 rfl) (mX4_waterBy l _ _ _ _ _ e2) wcd_X4_waterBy wml_X4_184 wim_X4_waterBy wse_X4_waterBy win_X4_waterBy hd_X4_waterBy ⟨Nat.le_of_ble_eq_true rfl, Nat.le_of_ble_eq_true rfl⟩ (Nat.le_of_ble_eq_true rfl) rfl rfl rfl ?_
      refine V_aload_n (pc := 26) X (th_da dtX4_tideOf 19 rfl) rfl ?_
      refine V_getR (pc := 27) (j := 2) (t := 2) X (th_da dtX4_tideOf 20 rfl) wfl_X4_15 iX4 rfl rfl (Nat.le_of_ble_eq_true rfl) rfl ?_
      refine V_iconst (pc := 30) (v := 3) X (th_da dtX4_tideOf 21 rfl) (by decide) ?_
      refine V_iload_n (pc := 31) X (th_da dtX4_tideOf 22 rfl) rfl ?_
      refine V_iadd (pc := 32) X (th_da dtX4_tideOf 23 rfl) ?_
      obtain ⟨v3, e3, g3, hf⟩ := th_rd_some hf
      refine V_iald (pc := 33) X (th_da dtX4_tideOf 24 rfl) rfl g3 e3 ?_
      refine V_i2l (pc := 34) X (th_da dtX4_tideOf 25 rfl) ?_
      refine V_lcmp (pc := 35) X (th_da dtX4_tideOf 26 rfl) ?_
      refine V_if_gt (pc := 36) (tgt := 45) X (th_da dtX4_tideOf 27 rfl) (by decide) (fun c4 => ?_) (fun c4 => ?_)
      · rw [if_pos c4] at hf
        refine V_iload (pc := 45) X (th_da dtX4_tideOf 31 rfl) rfl ?_
        refine V_istore_n (pc := 47) (ls2 := [.ref 0, .int y1, .int y2, .int ((y2 + y3) / 2), .int ((y2 + y3) / 2)]) X (th_da dtX4_tideOf 32 rfl) (Nat.le_of_ble_eq_true rfl) rfl rfl ?_
        refine V_goto (pc := 48) (tgt := 5) X (th_da dtX4_tideOf 33 rfl) (by decide) ?_
        refine V_mask [true, true, true, true, false] (ls2 := [.ref 0, .int y1, .int y2, .int ((y2 + y3) / 2), .null]) rfl ?_
        exact ih _ _ _ _ hf
      · rw [if_neg c4] at hf
        refine V_iload (pc := 39) X (th_da dtX4_tideOf 28 rfl) rfl ?_
        refine V_istore_n (pc := 41) (ls2 := [.ref 0, .int y1, .int ((y2 + y3) / 2), .int y3, .int ((y2 + y3) / 2)]) X (th_da dtX4_tideOf 29 rfl) (Nat.le_of_ble_eq_true rfl) rfl rfl ?_
        refine V_goto (pc := 42) (tgt := 48) X (th_da dtX4_tideOf 30 rfl) (by decide) ?_
        refine V_goto (pc := 48) (tgt := 5) X (th_da dtX4_tideOf 33 rfl) (by decide) ?_
        refine V_mask [true, true, true, true, false] (ls2 := [.ref 0, .int y1, .int ((y2 + y3) / 2), .int y3, .null]) rfl ?_
        exact ih _ _ _ _ hf
    · rw [if_neg c1] at hf
      refine V_iload_n (pc := 51) X (th_da dtX4_tideOf 34 rfl) rfl ?_
      exact V_iretF (pc := 52) X (th_da dtX4_tideOf 35 rfl) hf
set_option maxHeartbeats 4000000 in
set_option maxRecDepth 100000 in
theorem mX4_tideOf (l : Launch) (x1 : Int32) (h : th_H) (rr : Int32) (hh : th_H) (hf : fX4_tideOf x1 h = some (rr, hh)) : th_MI l LM yX4_tideOf cX4_tideOf 5 (some .int) 3 68 [.ref 0, .int x1] h (some (.int rr)) hh := by
  refine th_MI_of (ls := [.ref 0, .int x1, .null, .null, .null]) RX4 rfl rfl rfl (Nat.le_of_ble_eq_true rfl) ?_
  intro p0 e s m args below meth c D cI cZ ad X
  unfold fX4_tideOf at hf
  refine V_iconst (pc := 0) (v := 0) X (th_da dtX4_tideOf 0 rfl) (by decide) ?_
  refine V_istore_n (pc := 1) (ls2 := [.ref 0, .int x1, .int 0, .null, .null]) X (th_da dtX4_tideOf 1 rfl) (Nat.le_of_ble_eq_true rfl) rfl rfl ?_
  refine V_ldc (pc := 2) (v := 1000001) X (th_da dtX4_tideOf 2 rfl) wco_X4_154 ?_
  refine V_istore_n (pc := 4) (ls2 := [.ref 0, .int x1, .int 0, .int 1000001, .null]) X (th_da dtX4_tideOf 3 rfl) (Nat.le_of_ble_eq_true rfl) rfl rfl ?_
  exact tX4_tideOf_c5 X _ _ _ _ _ hf
end
def fX4_isOpen_c4 : Nat → Int32 → Int32 → Int32 → th_H → Option (Int32 × th_H)
  | 0, _, _, _, _ => none
  | n + 1, y1, y2, y3, h =>
    if (y3 < 20 : Prop) then
      if (y2 = 0 : Prop) then
        th_bd (fX4_goesOver y3 y1 h) fun u3 h3 =>
        if (u3 = 0 : Prop) then
          fX4_isOpen_c4 n y1 0 (y3 + 1) h3
        else
          th_rd h3 7 20 y3 fun v5 =>
          if (v5 = (-1) : Prop) then
            fX4_isOpen_c4 n y1 1 (y3 + 1) h3
          else
            fX4_isOpen_c4 n y1 0 (y3 + 1) h3
      else
        fX4_isOpen_c4 n y1 1 (y3 + 1) h
    else
      th_gb y2 <|
      some (y2, h)
def fX4_isOpen (x1 : Int32) (h : th_H) : Option (Int32 × th_H) :=
  fX4_isOpen_c4 1000 x1 0 0 h
def tbX4_isOpen : List (Nat × Instr × Nat) := [(0, .iconst 0, 1), (1, .istore_n 2, 1), (2, .iconst 0, 1), (3, .istore_n 3, 1), (4, .iload_n 3, 1), (5, .bipush 20, 2), (7, .if_icmp .ge 38, 3), (10, .iload_n 2, 1), (11, .ifCond .ne 22, 3), (14, .aload_n 0, 1), (15, .iload_n 3, 1), (16, .iload_n 1, 1), (17, .invokevirtual 75, 3), (20, .ifCond .eq 17, 3), (23, .aload_n 0, 1), (24, .getfield 31, 3), (27, .iload_n 3, 1), (28, .iaload, 1), (29, .iconst (-1), 1), (30, .if_icmp .ne 7, 3), (33, .iconst 1, 1), (34, .goto 4, 3), (37, .iconst 0, 1), (38, .istore_n 2, 1), (39, .iinc 3 1, 3), (42, .goto (-38), 3), (45, .iload_n 2, 1), (46, .ireturn, 1)]
theorem dtX4_isOpen : th_dec cX4_isOpen tbX4_isOpen = true := by decide +kernel
section
variable {p0 : Program} {l : Launch} {e : Env} {s : State} {m : MethodId} {args : Array Value} {below : List Frame} {meth : Method} {c : Code} {D : va_G} {cI cZ : ClassId} {ad : Nat → Nat} {rr : Int32} {hh : th_H}
set_option maxHeartbeats 4000000 in
set_option maxRecDepth 100000 in
theorem tX4_isOpen_c4 (X : th_X p0 s m args meth c D cI cZ ad LM 4 RX4 cX4_isOpen (some .boolean)) : ∀ (n : Nat) (y1 : Int32) (y2 : Int32) (y3 : Int32) (h : th_H), fX4_isOpen_c4 n y1 y2 y3 h = some (rr, hh) → th_V p0 l e { frames := 2, cells := 0, slots := 0, locals := 42 } s m args below meth c D cI cZ ad LM 4 (some (.int rr)) hh 4 [.ref 0, .int y1, .int y2, .int y3] [] h := by
  intro n
  induction n with
  | zero => intro y1 y2 y3 h hf; cases hf
  | succ n ih =>
    intro y1 y2 y3 h hf
    rw [fX4_isOpen_c4] at hf
    refine V_iload_n (pc := 4) X (th_da dtX4_isOpen 4 rfl) rfl ?_
    refine V_bipush (pc := 5) (v := 20) X (th_da dtX4_isOpen 5 rfl) (by decide) ?_
    refine V_icmp_ge (pc := 7) (tgt := 45) X (th_da dtX4_isOpen 6 rfl) (by decide) (fun c1 => ?_) (fun c1 => ?_)
    · rw [if_pos c1] at hf
      refine V_iload_n (pc := 10) X (th_da dtX4_isOpen 7 rfl) rfl ?_
      refine V_if_ne (pc := 11) (tgt := 33) X (th_da dtX4_isOpen 8 rfl) (by decide) (fun c2 => ?_) (fun c2 => ?_)
      · rw [if_pos c2] at hf
        refine V_aload_n (pc := 14) X (th_da dtX4_isOpen 9 rfl) rfl ?_
        refine V_iload_n (pc := 15) X (th_da dtX4_isOpen 10 rfl) rfl ?_
        refine V_iload_n (pc := 16) X (th_da dtX4_isOpen 11 rfl) rfl ?_
        obtain ⟨u3, h3, e3, hf⟩ := th_bd_some hf
        refine V_callVi (pc := 17) (q := 0) (As := [.int y3, .int y1]) X (th_da dtX4_isOpen 12 rfl) (mX4_goesOver l _ _ _ _ _ e3) wcd_X4_goesOver wml_X4_75 wim_X4_goesOver wse_X4_goesOver win_X4_goesOver hd_X4_goesOver ⟨Nat.le_of_ble_eq_true rfl, Nat.le_of_ble_eq_true rfl⟩ (Nat.le_of_ble_eq_true rfl) rfl rfl rfl ?_
        refine V_if_eq (pc := 20) (tgt := 37) X (th_da dtX4_isOpen 13 rfl) (by decide) (fun c4 => ?_) (fun c4 => ?_)
        · rw [if_pos c4] at hf
          refine V_iconst (pc := 37) (v := 0) X (th_da dtX4_isOpen 22 rfl) (by decide) ?_
          refine V_istore_n (pc := 38) (ls2 := [.ref 0, .int y1, .int 0, .int y3]) X (th_da dtX4_isOpen 23 rfl) (Nat.le_of_ble_eq_true rfl) rfl rfl ?_
          refine V_iinc (pc := 39) (v := y3 + 1) (ls2 := [.ref 0, .int y1, .int 0, .int (y3 + 1)]) X (th_da dtX4_isOpen 24 rfl) rfl rfl (Nat.le_of_ble_eq_true rfl) rfl rfl ?_
          refine V_goto (pc := 42) (tgt := 4) X (th_da dtX4_isOpen 25 rfl) (by decide) ?_
          exact ih _ _ _ _ hf
        · rw [if_neg c4] at hf
          refine V_aload_n (pc := 23) X (th_da dtX4_isOpen 14 rfl) rfl ?_
          refine V_getR (pc := 24) (j := 7) (t := 7) X (th_da dtX4_isOpen 15 rfl) wfl_X4_31 iX4 rfl rfl (Nat.le_of_ble_eq_true rfl) rfl ?_
          refine V_iload_n (pc := 27) X (th_da dtX4_isOpen 16 rfl) rfl ?_
          obtain ⟨v5, e5, g5, hf⟩ := th_rd_some hf
          refine V_iald (pc := 28) X (th_da dtX4_isOpen 17 rfl) rfl g5 e5 ?_
          refine V_iconst (pc := 29) (v := (-1)) X (th_da dtX4_isOpen 18 rfl) (by decide) ?_
          refine V_icmp_ne (pc := 30) (tgt := 37) X (th_da dtX4_isOpen 19 rfl) (by decide) (fun c6 => ?_) (fun c6 => ?_)
          · rw [if_pos c6] at hf
            refine V_iconst (pc := 33) (v := 1) X (th_da dtX4_isOpen 20 rfl) (by decide) ?_
            refine V_goto (pc := 34) (tgt := 38) X (th_da dtX4_isOpen 21 rfl) (by decide) ?_
            refine V_istore_n (pc := 38) (ls2 := [.ref 0, .int y1, .int 1, .int y3]) X (th_da dtX4_isOpen 23 rfl) (Nat.le_of_ble_eq_true rfl) rfl rfl ?_
            refine V_iinc (pc := 39) (v := y3 + 1) (ls2 := [.ref 0, .int y1, .int 1, .int (y3 + 1)]) X (th_da dtX4_isOpen 24 rfl) rfl rfl (Nat.le_of_ble_eq_true rfl) rfl rfl ?_
            refine V_goto (pc := 42) (tgt := 4) X (th_da dtX4_isOpen 25 rfl) (by decide) ?_
            exact ih _ _ _ _ hf
          · rw [if_neg c6] at hf
            refine V_iconst (pc := 37) (v := 0) X (th_da dtX4_isOpen 22 rfl) (by decide) ?_
            refine V_istore_n (pc := 38) (ls2 := [.ref 0, .int y1, .int 0, .int y3]) X (th_da dtX4_isOpen 23 rfl) (Nat.le_of_ble_eq_true rfl) rfl rfl ?_
            refine V_iinc (pc := 39) (v := y3 + 1) (ls2 := [.ref 0, .int y1, .int 0, .int (y3 + 1)]) X (th_da dtX4_isOpen 24 rfl) rfl rfl (Nat.le_of_ble_eq_true rfl) rfl rfl ?_
            refine V_goto (pc := 42) (tgt := 4) X (th_da dtX4_isOpen 25 rfl) (by decide) ?_
            exact ih _ _ _ _ hf
      · rw [if_neg c2] at hf
        refine V_iconst (pc := 33) (v := 1) X (th_da dtX4_isOpen 20 rfl) (by decide) ?_
        refine V_goto (pc := 34) (tgt := 38) X (th_da dtX4_isOpen 21 rfl) (by decide) ?_
        refine V_istore_n (pc := 38) (ls2 := [.ref 0, .int y1, .int 1, .int y3]) X (th_da dtX4_isOpen 23 rfl) (Nat.le_of_ble_eq_true rfl) rfl rfl ?_
        refine V_iinc (pc := 39) (v := y3 + 1) (ls2 := [.ref 0, .int y1, .int 1, .int (y3 + 1)]) X (th_da dtX4_isOpen 24 rfl) rfl rfl (Nat.le_of_ble_eq_true rfl) rfl rfl ?_
        refine V_goto (pc := 42) (tgt := 4) X (th_da dtX4_isOpen 25 rfl) (by decide) ?_
        exact ih _ _ _ _ hf
    · rw [if_neg c1] at hf
      refine V_iload_n (pc := 45) X (th_da dtX4_isOpen 26 rfl) rfl ?_
      obtain ⟨g7, hf⟩ := th_gb_some hf
      exact V_zretF (pc := 46) X (th_da dtX4_isOpen 27 rfl) g7 hf
set_option maxHeartbeats 4000000 in
set_option maxRecDepth 100000 in
theorem mX4_isOpen (l : Launch) (x1 : Int32) (h : th_H) (rr : Int32) (hh : th_H) (hf : fX4_isOpen x1 h = some (rr, hh)) : th_MI l LM yX4_isOpen cX4_isOpen 4 (some .boolean) 2 42 [.ref 0, .int x1] h (some (.int rr)) hh := by
  refine th_MI_of (ls := [.ref 0, .int x1, .null, .null]) RX4 rfl rfl rfl (Nat.le_of_ble_eq_true rfl) ?_
  intro p0 e s m args below meth c D cI cZ ad X
  unfold fX4_isOpen at hf
  refine V_iconst (pc := 0) (v := 0) X (th_da dtX4_isOpen 0 rfl) (by decide) ?_
  refine V_istore_n (pc := 1) (ls2 := [.ref 0, .int x1, .int 0, .null]) X (th_da dtX4_isOpen 1 rfl) (Nat.le_of_ble_eq_true rfl) rfl rfl ?_
  refine V_iconst (pc := 2) (v := 0) X (th_da dtX4_isOpen 2 rfl) (by decide) ?_
  refine V_istore_n (pc := 3) (ls2 := [.ref 0, .int x1, .int 0, .int 0]) X (th_da dtX4_isOpen 3 rfl) (Nat.le_of_ble_eq_true rfl) rfl rfl ?_
  exact tX4_isOpen_c4 X _ _ _ _ _ hf
end
def fX4_fix_c217 : Nat → Int32 → Int32 → th_H → Option (Int32 × th_H)
  | 0, _, _, _ => none
  | n + 1, y1, y2, h =>
    if (y2 < 20 : Prop) then
      th_rd h 11 20 (h.1 0 13) fun v2 =>
      if (((v2 >>> (y2 &&& 31)) &&& 1) = 1 : Prop) then
        th_wr h 7 20 y2 y1 fun h4 =>
        fX4_fix_c217 n y1 (y2 + 1) h4
      else
        th_rd h 7 20 y2 fun v5 =>
        th_wr h 7 20 y2 v5 fun h6 =>
        fX4_fix_c217 n y1 (y2 + 1) h6
    else
      th_st (th_up h 0 13 ((h.1 0 13) + 1)) fun h7 =>
      th_rd h7 11 20 ((h7.1 0 13) - 1) fun v8 =>
      th_bd (fX4_ones v8 h7) fun u9 h9 =>
      some (u9, h9)
def fX4_fix_c161 (k75 : Int32 → Int32 → th_H → Option (Int32 × th_H)) : Nat → Int32 → Int32 → Int32 → Int32 → th_H → Option (Int32 × th_H)
  | 0, _, _, _, _, _ => none
  | n + 1, y1, y2, y3, y4, h =>
    if (y4 < 0 : Prop) then
      th_wr h 9 20 y2 (h.1 0 13) fun h2 =>
      k75 y1 (y2 + 1) h2
    else
      if (((y3 >>> (y4 &&& 31)) &&& 1) = 1 : Prop) then
        th_wr h 8 20 y2 y4 fun h4 =>
        fX4_fix_c161 k75 n y1 y2 y3 (y4 + (-1)) h4
      else
        th_rd h 8 20 y2 fun v5 =>
        th_wr h 8 20 y2 v5 fun h6 =>
        fX4_fix_c161 k75 n y1 y2 y3 (y4 + (-1)) h6
def fX4_fix_c134 (k75 : Int32 → Int32 → th_H → Option (Int32 × th_H)) (y1 : Int32) (y2 : Int32) (y3 : Int32) (h : th_H) : Option (Int32 × th_H) :=
  th_rd h 11 20 (h.1 0 13) fun v1 =>
  th_wr h 11 20 (h.1 0 13) (v1 ||| ((1 : Int32) <<< (y2 &&& 31))) fun h2 =>
  th_wr h2 8 20 y2 10 fun h3 =>
  fX4_fix_c161 k75 1000 y1 y2 y3 9 h3
def fX4_fix_c75 : Nat → Int32 → Int32 → th_H → Option (Int32 × th_H)
  | 0, _, _, _ => none
  | n + 1, y1, y2, h =>
    if (y2 < 20 : Prop) then
      th_bd (fX4_at y2 h) fun u2 h2 =>
      th_rd h2 2 643 (u2 + 2) fun v3 =>
      th_rd h2 12 20 (h2.1 0 13) fun v4 =>
      th_bd (fX4_isFlow y2 h2) fun u5 h5 =>
      if (u5 = 0 : Prop) then
        fX4_fix_c75 n y1 (y2 + 1) h5
      else
        th_rd h5 7 20 y2 fun v7 =>
        if (v7 = (-1) : Prop) then
          if ((v3 &&& v4) = 0 : Prop) then
            th_bd (fX4_own y2 h5) fun u10 h10 =>
            if (u10 = y1 : Prop) then
              fX4_fix_c134 (fX4_fix_c75 n) y1 y2 (v3 &&& v4) h10
            else
              fX4_fix_c75 n y1 (y2 + 1) h10
          else
            fX4_fix_c134 (fX4_fix_c75 n) y1 y2 (v3 &&& v4) h5
        else
          fX4_fix_c75 n y1 (y2 + 1) h5
    else
      fX4_fix_c217 1000 y1 0 h
def fX4_fix_c32 : Nat → Int32 → Int32 → th_H → Option (Int32 × th_H)
  | 0, _, _, _ => none
  | n + 1, y1, y2, h =>
    if (y2 < 10 : Prop) then
      th_rd h 12 20 (h.1 0 13) fun v2 =>
      th_rd h 13 10 y2 fun v3 =>
      if (v3 = y1 : Prop) then
        th_wr h 12 20 (h.1 0 13) (v2 ||| ((1 : Int32) <<< (y2 &&& 31))) fun h5 =>
        fX4_fix_c32 n y1 (y2 + 1) h5
      else
        th_wr h 12 20 (h.1 0 13) (v2 ||| 0) fun h6 =>
        fX4_fix_c32 n y1 (y2 + 1) h6
    else
      fX4_fix_c75 1000 y1 0 h
def fX4_fix (x1 : Int32) (h : th_H) : Option (Int32 × th_H) :=
  th_wr h 10 20 (h.1 0 13) x1 fun h1 =>
  th_wr h1 11 20 (h1.1 0 13) 0 fun h2 =>
  th_wr h2 12 20 (h2.1 0 13) 0 fun h3 =>
  fX4_fix_c32 1000 x1 0 h3
def tbX4_fix : List (Nat × Instr × Nat) := [(0, .aload_n 0, 1), (1, .getfield 40, 3), (4, .aload_n 0, 1), (5, .getfield 187, 3), (8, .iload_n 1, 1), (9, .iastore, 1), (10, .aload_n 0, 1), (11, .getfield 43, 3), (14, .aload_n 0, 1), (15, .getfield 187, 3), (18, .iconst 0, 1), (19, .iastore, 1), (20, .aload_n 0, 1), (21, .getfield 46, 3), (24, .aload_n 0, 1), (25, .getfield 187, 3), (28, .iconst 0, 1), (29, .iastore, 1), (30, .iconst 0, 1), (31, .istore_n 2, 1), (32, .iload_n 2, 1), (33, .bipush 10, 2), (35, .if_icmp .ge 38, 3), (38, .aload_n 0, 1), (39, .getfield 46, 3), (42, .aload_n 0, 1), (43, .getfield 187, 3), (46, .dup2, 1), (47, .iaload, 1), (48, .aload_n 0, 1), (49, .getfield 49, 3), (52, .iload_n 2, 1), (53, .iaload, 1), (54, .iload_n 1, 1), (55, .if_icmp .ne 9, 3), (58, .iconst 1, 1), (59, .iload_n 2, 1), (60, .ishl, 1), (61, .goto 4, 3), (64, .iconst 0, 1), (65, .ior, 1), (66, .iastore, 1), (67, .iinc 2 1, 3), (70, .goto (-38), 3), (73, .iconst 0, 1), (74, .istore_n 2, 1), (75, .iload_n 2, 1), (76, .bipush 20, 2), (78, .if_icmp .ge 137, 3), (81, .aload_n 0, 1), (82, .getfield 15, 3), (85, .iload_n 2, 1), (86, .invokestatic 71, 3), (89, .iconst 2, 1), (90, .iadd, 1), (91, .iaload, 1), (92, .aload_n 0, 1), (93, .getfield 46, 3), (96, .aload_n 0, 1), (97, .getfield 187, 3), (100, .iaload, 1), (101, .iand, 1), (102, .istore_n 3, 1), (103, .aload_n 0, 1), (104, .iload_n 2, 1), (105, .invokevirtual 125, 3), (108, .ifCond .eq 101, 3), (111, .aload_n 0, 1), (112, .getfield 31, 3), (115, .iload_n 2, 1), (116, .iaload, 1), (117, .iconst (-1), 1), (118, .if_icmp .ne 91, 3), (121, .iload_n 3, 1), (122, .ifCond .ne 12, 3), (125, .aload_n 0, 1), (126, .iload_n 2, 1), (127, .invokevirtual 162, 3), (130, .iload_n 1, 1), (131, .if_icmp .ne 78, 3), (134, .aload_n 0, 1), (135, .getfield 43, 3), (138, .aload_n 0, 1), (139, .getfield 187, 3), (142, .dup2, 1), (143, .iaload, 1), (144, .iconst 1, 1), (145, .iload_n 2, 1), (146, .ishl, 1), (147, .ior, 1), (148, .iastore, 1), (149, .aload_n 0, 1), (150, .getfield 34, 3), (153, .iload_n 2, 1), (154, .bipush 10, 2), (156, .iastore, 1), (157, .bipush 9, 2), (159, .istore 4, 2), (161, .iload 4, 2), (163, .ifCond .lt 36, 3), (166, .aload_n 0, 1), (167, .getfield 34, 3), (170, .iload_n 2, 1), (171, .iload_n 3, 1), (172, .iload 4, 2), (174, .ishr, 1), (175, .iconst 1, 1), (176, .iand, 1), (177, .iconst 1, 1), (178, .if_icmp .ne 8, 3), (181, .iload 4, 2), (183, .goto 9, 3), (186, .aload_n 0, 1), (187, .getfield 34, 3), (190, .iload_n 2, 1), (191, .iaload, 1), (192, .iastore, 1), (193, .iinc 4 (-1), 3), (196, .goto (-35), 3), (199, .aload_n 0, 1), (200, .getfield 37, 3), (203, .iload_n 2, 1), (204, .aload_n 0, 1), (205, .getfield 187, 3), (208, .iastore, 1), (209, .iinc 2 1, 3), (212, .goto (-137), 3), (215, .iconst 0, 1), (216, .istore_n 2, 1), (217, .iload_n 2, 1), (218, .bipush 20, 2), (220, .if_icmp .ge 42, 3), (223, .aload_n 0, 1), (224, .getfield 31, 3), (227, .iload_n 2, 1), (228, .aload_n 0, 1), (229, .getfield 43, 3), (232, .aload_n 0, 1), (233, .getfield 187, 3), (236, .iaload, 1), (237, .iload_n 2, 1), (238, .ishr, 1), (239, .iconst 1, 1), (240, .iand, 1), (241, .iconst 1, 1), (242, .if_icmp .ne 7, 3), (245, .iload_n 1, 1), (246, .goto 9, 3), (249, .aload_n 0, 1), (250, .getfield 31, 3), (253, .iload_n 2, 1), (254, .iaload, 1), (255, .iastore, 1), (256, .iinc 2 1, 3), (259, .goto (-42), 3), (262, .aload_n 0, 1), (263, .dup, 1), (264, .getfield 187, 3), (267, .iconst 1, 1), (268, .iadd, 1), (269, .putfield 187, 3), (272, .aload_n 0, 1), (273, .getfield 43, 3), (276, .aload_n 0, 1), (277, .getfield 187, 3), (280, .iconst 1, 1), (281, .isub, 1), (282, .iaload, 1), (283, .invokestatic 140, 3), (286, .ireturn, 1)]
theorem dtX4_fix : th_dec cX4_fix tbX4_fix = true := by decide +kernel
section
variable {p0 : Program} {l : Launch} {e : Env} {s : State} {m : MethodId} {args : Array Value} {below : List Frame} {meth : Method} {c : Code} {D : va_G} {cI cZ : ClassId} {ad : Nat → Nat} {rr : Int32} {hh : th_H}
set_option maxHeartbeats 4000000 in
set_option maxRecDepth 100000 in
theorem tX4_fix_c217 (X : th_X p0 s m args meth c D cI cZ ad LM 5 RX4 cX4_fix (some .int)) : ∀ (n : Nat) (y1 : Int32) (y2 : Int32) (h : th_H), fX4_fix_c217 n y1 y2 h = some (rr, hh) → th_V p0 l e { frames := 2, cells := 0, slots := 0, locals := 46 } s m args below meth c D cI cZ ad LM 5 (some (.int rr)) hh 217 [.ref 0, .int y1, .int y2, .null, .null] [] h := by
  intro n
  induction n with
  | zero => intro y1 y2 h hf; cases hf
  | succ n ih =>
    intro y1 y2 h hf
    rw [fX4_fix_c217] at hf
    refine V_iload_n (pc := 217) X (th_da dtX4_fix 129 rfl) rfl ?_
    refine V_bipush (pc := 218) (v := 20) X (th_da dtX4_fix 130 rfl) (by decide) ?_
    refine V_icmp_ge (pc := 220) (tgt := 262) X (th_da dtX4_fix 131 rfl) (by decide) (fun c1 => ?_) (fun c1 => ?_)
    · rw [if_pos c1] at hf
      refine V_aload_n (pc := 223) X (th_da dtX4_fix 132 rfl) rfl ?_
      refine V_getR (pc := 224) (j := 7) (t := 7) X (th_da dtX4_fix 133 rfl) wfl_X4_31 iX4 rfl rfl (Nat.le_of_ble_eq_true rfl) rfl ?_
      refine V_iload_n (pc := 227) X (th_da dtX4_fix 134 rfl) rfl ?_
      refine V_aload_n (pc := 228) X (th_da dtX4_fix 135 rfl) rfl ?_
      refine V_getR (pc := 229) (j := 11) (t := 11) X (th_da dtX4_fix 136 rfl) wfl_X4_43 iX4 rfl rfl (Nat.le_of_ble_eq_true rfl) rfl ?_
      refine V_aload_n (pc := 232) X (th_da dtX4_fix 137 rfl) rfl ?_
      refine V_getI (pc := 233) (j := 13) X (th_da dtX4_fix 138 rfl) wfl_X4_187 iX4 rfl rfl (Nat.le_of_ble_eq_true rfl) rfl ?_
      obtain ⟨v2, e2, g2, hf⟩ := th_rd_some hf
      refine V_iald (pc := 236) X (th_da dtX4_fix 139 rfl) rfl g2 e2 ?_
      refine V_iload_n (pc := 237) X (th_da dtX4_fix 140 rfl) rfl ?_
      refine V_ishr (pc := 238) X (th_da dtX4_fix 141 rfl) ?_
      refine V_iconst (pc := 239) (v := 1) X (th_da dtX4_fix 142 rfl) (by decide) ?_
      refine V_iand (pc := 240) X (th_da dtX4_fix 143 rfl) ?_
      refine V_iconst (pc := 241) (v := 1) X (th_da dtX4_fix 144 rfl) (by decide) ?_
      refine V_icmp_ne (pc := 242) (tgt := 249) X (th_da dtX4_fix 145 rfl) (by decide) (fun c3 => ?_) (fun c3 => ?_)
      · rw [if_pos c3] at hf
        refine V_iload_n (pc := 245) X (th_da dtX4_fix 146 rfl) rfl ?_
        refine V_goto (pc := 246) (tgt := 255) X (th_da dtX4_fix 147 rfl) (by decide) ?_
        obtain ⟨h4, e4, g4, hf⟩ := th_wr_some hf
        refine V_iast (pc := 255) X (th_da dtX4_fix 152 rfl) rfl g4 e4 ?_
        refine V_iinc (pc := 256) (v := y2 + 1) (ls2 := [.ref 0, .int y1, .int (y2 + 1), .null, .null]) X (th_da dtX4_fix 153 rfl) rfl rfl (Nat.le_of_ble_eq_true rfl) rfl rfl ?_
        refine V_goto (pc := 259) (tgt := 217) X (th_da dtX4_fix 154 rfl) (by decide) ?_
        exact ih _ _ _ hf
      · rw [if_neg c3] at hf
        refine V_aload_n (pc := 249) X (th_da dtX4_fix 148 rfl) rfl ?_
        refine V_getR (pc := 250) (j := 7) (t := 7) X (th_da dtX4_fix 149 rfl) wfl_X4_31 iX4 rfl rfl (Nat.le_of_ble_eq_true rfl) rfl ?_
        refine V_iload_n (pc := 253) X (th_da dtX4_fix 150 rfl) rfl ?_
        obtain ⟨v5, e5, g5, hf⟩ := th_rd_some hf
        refine V_iald (pc := 254) X (th_da dtX4_fix 151 rfl) rfl g5 e5 ?_
        obtain ⟨h6, e6, g6, hf⟩ := th_wr_some hf
        refine V_iast (pc := 255) X (th_da dtX4_fix 152 rfl) rfl g6 e6 ?_
        refine V_iinc (pc := 256) (v := y2 + 1) (ls2 := [.ref 0, .int y1, .int (y2 + 1), .null, .null]) X (th_da dtX4_fix 153 rfl) rfl rfl (Nat.le_of_ble_eq_true rfl) rfl rfl ?_
        refine V_goto (pc := 259) (tgt := 217) X (th_da dtX4_fix 154 rfl) (by decide) ?_
        exact ih _ _ _ hf
    · rw [if_neg c1] at hf
      refine V_aload_n (pc := 262) X (th_da dtX4_fix 155 rfl) rfl ?_
      refine V_dup (pc := 263) X (th_da dtX4_fix 156 rfl) rfl ?_
      refine V_getI (pc := 264) (j := 13) X (th_da dtX4_fix 157 rfl) wfl_X4_187 iX4 rfl rfl (Nat.le_of_ble_eq_true rfl) rfl ?_
      refine V_iconst (pc := 267) (v := 1) X (th_da dtX4_fix 158 rfl) (by decide) ?_
      refine V_iadd (pc := 268) X (th_da dtX4_fix 159 rfl) ?_
      obtain ⟨h7, e7, hf⟩ := th_st_some hf
      refine V_putI (pc := 269) (j := 13) (ty := .int) X (th_da dtX4_fix 160 rfl) wfl_X4_187 iX4 rfl rfl (Nat.le_of_ble_eq_true rfl) rfl tyX4 tyX4_ok nmX4 rfl (tyX4_ok 13 (Nat.le_of_ble_eq_true rfl)) rfl rfl e7 ?_
      refine V_aload_n (pc := 272) X (th_da dtX4_fix 161 rfl) rfl ?_
      refine V_getR (pc := 273) (j := 11) (t := 11) X (th_da dtX4_fix 162 rfl) wfl_X4_43 iX4 rfl rfl (Nat.le_of_ble_eq_true rfl) rfl ?_
      refine V_aload_n (pc := 276) X (th_da dtX4_fix 163 rfl) rfl ?_
      refine V_getI (pc := 277) (j := 13) X (th_da dtX4_fix 164 rfl) wfl_X4_187 iX4 rfl rfl (Nat.le_of_ble_eq_true rfl) rfl ?_
      refine V_iconst (pc := 280) (v := 1) X (th_da dtX4_fix 165 rfl) (by decide) ?_
      refine V_isub (pc := 281) X (th_da dtX4_fix 166 rfl) ?_
      obtain ⟨v8, e8, g8, hf⟩ := th_rd_some hf
      refine V_iald (pc := 282) X (th_da dtX4_fix 167 rfl) rfl g8 e8 ?_
      obtain ⟨u9, h9, e9, hf⟩ := th_bd_some hf
      refine V_callSi (pc := 283) (As := [.int v8]) X (th_da dtX4_fix 168 rfl) (mX4_ones l _ _ _ _ e9) wcd_X4_ones wml_X4_140 wst_X4_ones win_X4_ones hd_X4_ones ⟨Nat.le_of_ble_eq_true rfl, Nat.le_of_ble_eq_true rfl⟩ (Nat.le_of_ble_eq_true rfl) rfl ?_
      exact V_iretF (pc := 286) X (th_da dtX4_fix 169 rfl) hf
set_option maxHeartbeats 4000000 in
set_option maxRecDepth 100000 in
theorem tX4_fix_c161 (X : th_X p0 s m args meth c D cI cZ ad LM 5 RX4 cX4_fix (some .int)) (k75 : Int32 → Int32 → th_H → Option (Int32 × th_H)) (hk75 : ∀ (y1 : Int32) (y2 : Int32) (h : th_H), k75 y1 y2 h = some (rr, hh) → th_V p0 l e { frames := 2, cells := 0, slots := 0, locals := 46 } s m args below meth c D cI cZ ad LM 5 (some (.int rr)) hh 75 [.ref 0, .int y1, .int y2, .null, .null] [] h) : ∀ (n : Nat) (y1 : Int32) (y2 : Int32) (y3 : Int32) (y4 : Int32) (h : th_H), fX4_fix_c161 k75 n y1 y2 y3 y4 h = some (rr, hh) → th_V p0 l e { frames := 2, cells := 0, slots := 0, locals := 46 } s m args below meth c D cI cZ ad LM 5 (some (.int rr)) hh 161 [.ref 0, .int y1, .int y2, .int y3, .int y4] [] h := by
  intro n
  induction n with
  | zero => intro y1 y2 y3 y4 h hf; cases hf
  | succ n ih =>
    intro y1 y2 y3 y4 h hf
    rw [fX4_fix_c161] at hf
    refine V_iload (pc := 161) X (th_da dtX4_fix 98 rfl) rfl ?_
    refine V_if_lt (pc := 163) (tgt := 199) X (th_da dtX4_fix 99 rfl) (by decide) (fun c1 => ?_) (fun c1 => ?_)
    · rw [if_pos c1] at hf
      refine V_aload_n (pc := 199) X (th_da dtX4_fix 119 rfl) rfl ?_
      refine V_getR (pc := 200) (j := 9) (t := 9) X (th_da dtX4_fix 120 rfl) wfl_X4_37 iX4 rfl rfl (Nat.le_of_ble_eq_true rfl) rfl ?_
      refine V_iload_n (pc := 203) X (th_da dtX4_fix 121 rfl) rfl ?_
      refine V_aload_n (pc := 204) X (th_da dtX4_fix 122 rfl) rfl ?_
      refine V_getI (pc := 205) (j := 13) X (th_da dtX4_fix 123 rfl) wfl_X4_187 iX4 rfl rfl (Nat.le_of_ble_eq_true rfl) rfl ?_
      obtain ⟨h2, e2, g2, hf⟩ := th_wr_some hf
      refine V_iast (pc := 208) X (th_da dtX4_fix 124 rfl) rfl g2 e2 ?_
      refine V_iinc (pc := 209) (v := y2 + 1) (ls2 := [.ref 0, .int y1, .int (y2 + 1), .int y3, .int y4]) X (th_da dtX4_fix 125 rfl) rfl rfl (Nat.le_of_ble_eq_true rfl) rfl rfl ?_
      refine V_goto (pc := 212) (tgt := 75) X (th_da dtX4_fix 126 rfl) (by decide) ?_
      refine V_mask [true, true, true, false, false] (ls2 := [.ref 0, .int y1, .int (y2 + 1), .null, .null]) rfl ?_
      exact hk75 _ _ _ hf
    · rw [if_neg c1] at hf
      refine V_aload_n (pc := 166) X (th_da dtX4_fix 100 rfl) rfl ?_
      refine V_getR (pc := 167) (j := 8) (t := 8) X (th_da dtX4_fix 101 rfl) wfl_X4_34 iX4 rfl rfl (Nat.le_of_ble_eq_true rfl) rfl ?_
      refine V_iload_n (pc := 170) X (th_da dtX4_fix 102 rfl) rfl ?_
      refine V_iload_n (pc := 171) X (th_da dtX4_fix 103 rfl) rfl ?_
      refine V_iload (pc := 172) X (th_da dtX4_fix 104 rfl) rfl ?_
      refine V_ishr (pc := 174) X (th_da dtX4_fix 105 rfl) ?_
      refine V_iconst (pc := 175) (v := 1) X (th_da dtX4_fix 106 rfl) (by decide) ?_
      refine V_iand (pc := 176) X (th_da dtX4_fix 107 rfl) ?_
      refine V_iconst (pc := 177) (v := 1) X (th_da dtX4_fix 108 rfl) (by decide) ?_
      refine V_icmp_ne (pc := 178) (tgt := 186) X (th_da dtX4_fix 109 rfl) (by decide) (fun c3 => ?_) (fun c3 => ?_)
      · rw [if_pos c3] at hf
        refine V_iload (pc := 181) X (th_da dtX4_fix 110 rfl) rfl ?_
        refine V_goto (pc := 183) (tgt := 192) X (th_da dtX4_fix 111 rfl) (by decide) ?_
        obtain ⟨h4, e4, g4, hf⟩ := th_wr_some hf
        refine V_iast (pc := 192) X (th_da dtX4_fix 116 rfl) rfl g4 e4 ?_
        refine V_iinc (pc := 193) (v := y4 + (-1)) (ls2 := [.ref 0, .int y1, .int y2, .int y3, .int (y4 + (-1))]) X (th_da dtX4_fix 117 rfl) rfl rfl (Nat.le_of_ble_eq_true rfl) rfl rfl ?_
        refine V_goto (pc := 196) (tgt := 161) X (th_da dtX4_fix 118 rfl) (by decide) ?_
        exact ih _ _ _ _ _ hf
      · rw [if_neg c3] at hf
        refine V_aload_n (pc := 186) X (th_da dtX4_fix 112 rfl) rfl ?_
        refine V_getR (pc := 187) (j := 8) (t := 8) X (th_da dtX4_fix 113 rfl) wfl_X4_34 iX4 rfl rfl (Nat.le_of_ble_eq_true rfl) rfl ?_
        refine V_iload_n (pc := 190) X (th_da dtX4_fix 114 rfl) rfl ?_
        obtain ⟨v5, e5, g5, hf⟩ := th_rd_some hf
        refine V_iald (pc := 191) X (th_da dtX4_fix 115 rfl) rfl g5 e5 ?_
        obtain ⟨h6, e6, g6, hf⟩ := th_wr_some hf
        refine V_iast (pc := 192) X (th_da dtX4_fix 116 rfl) rfl g6 e6 ?_
        refine V_iinc (pc := 193) (v := y4 + (-1)) (ls2 := [.ref 0, .int y1, .int y2, .int y3, .int (y4 + (-1))]) X (th_da dtX4_fix 117 rfl) rfl rfl (Nat.le_of_ble_eq_true rfl) rfl rfl ?_
        refine V_goto (pc := 196) (tgt := 161) X (th_da dtX4_fix 118 rfl) (by decide) ?_
        exact ih _ _ _ _ _ hf
set_option maxHeartbeats 4000000 in
set_option maxRecDepth 100000 in
theorem tX4_fix_c134 (X : th_X p0 s m args meth c D cI cZ ad LM 5 RX4 cX4_fix (some .int)) (k75 : Int32 → Int32 → th_H → Option (Int32 × th_H)) (hk75 : ∀ (y1 : Int32) (y2 : Int32) (h : th_H), k75 y1 y2 h = some (rr, hh) → th_V p0 l e { frames := 2, cells := 0, slots := 0, locals := 46 } s m args below meth c D cI cZ ad LM 5 (some (.int rr)) hh 75 [.ref 0, .int y1, .int y2, .null, .null] [] h) (y1 : Int32) (y2 : Int32) (y3 : Int32) (h : th_H) (hf : fX4_fix_c134 k75 y1 y2 y3 h = some (rr, hh)) : th_V p0 l e { frames := 2, cells := 0, slots := 0, locals := 46 } s m args below meth c D cI cZ ad LM 5 (some (.int rr)) hh 134 [.ref 0, .int y1, .int y2, .int y3, .null] [] h := by
  unfold fX4_fix_c134 at hf
  refine V_aload_n (pc := 134) X (th_da dtX4_fix 80 rfl) rfl ?_
  refine V_getR (pc := 135) (j := 11) (t := 11) X (th_da dtX4_fix 81 rfl) wfl_X4_43 iX4 rfl rfl (Nat.le_of_ble_eq_true rfl) rfl ?_
  refine V_aload_n (pc := 138) X (th_da dtX4_fix 82 rfl) rfl ?_
  refine V_getI (pc := 139) (j := 13) X (th_da dtX4_fix 83 rfl) wfl_X4_187 iX4 rfl rfl (Nat.le_of_ble_eq_true rfl) rfl ?_
  refine V_dup2 (pc := 142) X (th_da dtX4_fix 84 rfl) rfl rfl ?_
  obtain ⟨v1, e1, g1, hf⟩ := th_rd_some hf
  refine V_iald (pc := 143) X (th_da dtX4_fix 85 rfl) rfl g1 e1 ?_
  refine V_iconst (pc := 144) (v := 1) X (th_da dtX4_fix 86 rfl) (by decide) ?_
  refine V_iload_n (pc := 145) X (th_da dtX4_fix 87 rfl) rfl ?_
  refine V_ishl (pc := 146) X (th_da dtX4_fix 88 rfl) ?_
  refine V_ior (pc := 147) X (th_da dtX4_fix 89 rfl) ?_
  obtain ⟨h2, e2, g2, hf⟩ := th_wr_some hf
  refine V_iast (pc := 148) X (th_da dtX4_fix 90 rfl) rfl g2 e2 ?_
  refine V_aload_n (pc := 149) X (th_da dtX4_fix 91 rfl) rfl ?_
  refine V_getR (pc := 150) (j := 8) (t := 8) X (th_da dtX4_fix 92 rfl) wfl_X4_34 iX4 rfl rfl (Nat.le_of_ble_eq_true rfl) rfl ?_
  refine V_iload_n (pc := 153) X (th_da dtX4_fix 93 rfl) rfl ?_
  refine V_bipush (pc := 154) (v := 10) X (th_da dtX4_fix 94 rfl) (by decide) ?_
  obtain ⟨h3, e3, g3, hf⟩ := th_wr_some hf
  refine V_iast (pc := 156) X (th_da dtX4_fix 95 rfl) rfl g3 e3 ?_
  refine V_bipush (pc := 157) (v := 9) X (th_da dtX4_fix 96 rfl) (by decide) ?_
  refine V_istore (pc := 159) (ls2 := [.ref 0, .int y1, .int y2, .int y3, .int 9]) X (th_da dtX4_fix 97 rfl) (Nat.le_of_ble_eq_true rfl) rfl rfl ?_
  exact tX4_fix_c161 X _ hk75 _ _ _ _ _ _ hf
set_option maxHeartbeats 4000000 in
set_option maxRecDepth 100000 in
theorem tX4_fix_c75 (X : th_X p0 s m args meth c D cI cZ ad LM 5 RX4 cX4_fix (some .int)) : ∀ (n : Nat) (y1 : Int32) (y2 : Int32) (h : th_H), fX4_fix_c75 n y1 y2 h = some (rr, hh) → th_V p0 l e { frames := 2, cells := 0, slots := 0, locals := 46 } s m args below meth c D cI cZ ad LM 5 (some (.int rr)) hh 75 [.ref 0, .int y1, .int y2, .null, .null] [] h := by
  intro n
  induction n with
  | zero => intro y1 y2 h hf; cases hf
  | succ n ih =>
    intro y1 y2 h hf
    rw [fX4_fix_c75] at hf
    refine V_iload_n (pc := 75) X (th_da dtX4_fix 46 rfl) rfl ?_
    refine V_bipush (pc := 76) (v := 20) X (th_da dtX4_fix 47 rfl) (by decide) ?_
    refine V_icmp_ge (pc := 78) (tgt := 215) X (th_da dtX4_fix 48 rfl) (by decide) (fun c1 => ?_) (fun c1 => ?_)
    · rw [if_pos c1] at hf
      refine V_aload_n (pc := 81) X (th_da dtX4_fix 49 rfl) rfl ?_
      refine V_getR (pc := 82) (j := 2) (t := 2) X (th_da dtX4_fix 50 rfl) wfl_X4_15 iX4 rfl rfl (Nat.le_of_ble_eq_true rfl) rfl ?_
      refine V_iload_n (pc := 85) X (th_da dtX4_fix 51 rfl) rfl ?_
      obtain ⟨u2, h2, e2, hf⟩ := th_bd_some hf
      refine V_callSi (pc := 86) (As := [.int y2]) X (th_da dtX4_fix 52 rfl) (mX4_at l _ _ _ _ e2) wcd_X4_at wml_X4_71 wst_X4_at win_X4_at hd_X4_at ⟨Nat.le_of_ble_eq_true rfl, Nat.le_of_ble_eq_true rfl⟩ (Nat.le_of_ble_eq_true rfl) rfl ?_
      refine V_iconst (pc := 89) (v := 2) X (th_da dtX4_fix 53 rfl) (by decide) ?_
      refine V_iadd (pc := 90) X (th_da dtX4_fix 54 rfl) ?_
      obtain ⟨v3, e3, g3, hf⟩ := th_rd_some hf
      refine V_iald (pc := 91) X (th_da dtX4_fix 55 rfl) rfl g3 e3 ?_
      refine V_aload_n (pc := 92) X (th_da dtX4_fix 56 rfl) rfl ?_
      refine V_getR (pc := 93) (j := 12) (t := 12) X (th_da dtX4_fix 57 rfl) wfl_X4_46 iX4 rfl rfl (Nat.le_of_ble_eq_true rfl) rfl ?_
      refine V_aload_n (pc := 96) X (th_da dtX4_fix 58 rfl) rfl ?_
      refine V_getI (pc := 97) (j := 13) X (th_da dtX4_fix 59 rfl) wfl_X4_187 iX4 rfl rfl (Nat.le_of_ble_eq_true rfl) rfl ?_
      obtain ⟨v4, e4, g4, hf⟩ := th_rd_some hf
      refine V_iald (pc := 100) X (th_da dtX4_fix 60 rfl) rfl g4 e4 ?_
      refine V_iand (pc := 101) X (th_da dtX4_fix 61 rfl) ?_
      refine V_istore_n (pc := 102) (ls2 := [.ref 0, .int y1, .int y2, .int (v3 &&& v4), .null]) X (th_da dtX4_fix 62 rfl) (Nat.le_of_ble_eq_true rfl) rfl rfl ?_
      refine V_aload_n (pc := 103) X (th_da dtX4_fix 63 rfl) rfl ?_
      refine V_iload_n (pc := 104) X (th_da dtX4_fix 64 rfl) rfl ?_
      obtain ⟨u5, h5, e5, hf⟩ := th_bd_some hf
      refine V_callVi (pc := 105) (q := 0) (As := [.int y2]) X (th_da dtX4_fix 65 rfl) (mX4_isFlow l _ _ _ _ e5) wcd_X4_isFlow wml_X4_125 wim_X4_isFlow wse_X4_isFlow win_X4_isFlow hd_X4_isFlow ⟨Nat.le_of_ble_eq_true rfl, Nat.le_of_ble_eq_true rfl⟩ (Nat.le_of_ble_eq_true rfl) rfl rfl rfl ?_
      refine V_if_eq (pc := 108) (tgt := 209) X (th_da dtX4_fix 66 rfl) (by decide) (fun c6 => ?_) (fun c6 => ?_)
      · rw [if_pos c6] at hf
        refine V_iinc (pc := 209) (v := y2 + 1) (ls2 := [.ref 0, .int y1, .int (y2 + 1), .int (v3 &&& v4), .null]) X (th_da dtX4_fix 125 rfl) rfl rfl (Nat.le_of_ble_eq_true rfl) rfl rfl ?_
        refine V_goto (pc := 212) (tgt := 75) X (th_da dtX4_fix 126 rfl) (by decide) ?_
        refine V_mask [true, true, true, false, false] (ls2 := [.ref 0, .int y1, .int (y2 + 1), .null, .null]) rfl ?_
        exact ih _ _ _ hf
      · rw [if_neg c6] at hf
        refine V_aload_n (pc := 111) X (th_da dtX4_fix 67 rfl) rfl ?_
        refine V_getR (pc := 112) (j := 7) (t := 7) X (th_da dtX4_fix 68 rfl) wfl_X4_31 iX4 rfl rfl (Nat.le_of_ble_eq_true rfl) rfl ?_
        refine V_iload_n (pc := 115) X (th_da dtX4_fix 69 rfl) rfl ?_
        obtain ⟨v7, e7, g7, hf⟩ := th_rd_some hf
        refine V_iald (pc := 116) X (th_da dtX4_fix 70 rfl) rfl g7 e7 ?_
        refine V_iconst (pc := 117) (v := (-1)) X (th_da dtX4_fix 71 rfl) (by decide) ?_
        refine V_icmp_ne (pc := 118) (tgt := 209) X (th_da dtX4_fix 72 rfl) (by decide) (fun c8 => ?_) (fun c8 => ?_)
        · rw [if_pos c8] at hf
          refine V_iload_n (pc := 121) X (th_da dtX4_fix 73 rfl) rfl ?_
          refine V_if_ne (pc := 122) (tgt := 134) X (th_da dtX4_fix 74 rfl) (by decide) (fun c9 => ?_) (fun c9 => ?_)
          · rw [if_pos c9] at hf
            refine V_aload_n (pc := 125) X (th_da dtX4_fix 75 rfl) rfl ?_
            refine V_iload_n (pc := 126) X (th_da dtX4_fix 76 rfl) rfl ?_
            obtain ⟨u10, h10, e10, hf⟩ := th_bd_some hf
            refine V_callVi (pc := 127) (q := 0) (As := [.int y2]) X (th_da dtX4_fix 77 rfl) (mX4_own l _ _ _ _ e10) wcd_X4_own wml_X4_162 wim_X4_own wse_X4_own win_X4_own hd_X4_own ⟨Nat.le_of_ble_eq_true rfl, Nat.le_of_ble_eq_true rfl⟩ (Nat.le_of_ble_eq_true rfl) rfl rfl rfl ?_
            refine V_iload_n (pc := 130) X (th_da dtX4_fix 78 rfl) rfl ?_
            refine V_icmp_ne (pc := 131) (tgt := 209) X (th_da dtX4_fix 79 rfl) (by decide) (fun c11 => ?_) (fun c11 => ?_)
            · rw [if_pos c11] at hf
              exact tX4_fix_c134 X _ ih _ _ _ _ hf
            · rw [if_neg c11] at hf
              refine V_iinc (pc := 209) (v := y2 + 1) (ls2 := [.ref 0, .int y1, .int (y2 + 1), .int (v3 &&& v4), .null]) X (th_da dtX4_fix 125 rfl) rfl rfl (Nat.le_of_ble_eq_true rfl) rfl rfl ?_
              refine V_goto (pc := 212) (tgt := 75) X (th_da dtX4_fix 126 rfl) (by decide) ?_
              refine V_mask [true, true, true, false, false] (ls2 := [.ref 0, .int y1, .int (y2 + 1), .null, .null]) rfl ?_
              exact ih _ _ _ hf
          · rw [if_neg c9] at hf
            exact tX4_fix_c134 X _ ih _ _ _ _ hf
        · rw [if_neg c8] at hf
          refine V_iinc (pc := 209) (v := y2 + 1) (ls2 := [.ref 0, .int y1, .int (y2 + 1), .int (v3 &&& v4), .null]) X (th_da dtX4_fix 125 rfl) rfl rfl (Nat.le_of_ble_eq_true rfl) rfl rfl ?_
          refine V_goto (pc := 212) (tgt := 75) X (th_da dtX4_fix 126 rfl) (by decide) ?_
          refine V_mask [true, true, true, false, false] (ls2 := [.ref 0, .int y1, .int (y2 + 1), .null, .null]) rfl ?_
          exact ih _ _ _ hf
    · rw [if_neg c1] at hf
      refine V_iconst (pc := 215) (v := 0) X (th_da dtX4_fix 127 rfl) (by decide) ?_
      refine V_istore_n (pc := 216) (ls2 := [.ref 0, .int y1, .int 0, .null, .null]) X (th_da dtX4_fix 128 rfl) (Nat.le_of_ble_eq_true rfl) rfl rfl ?_
      exact tX4_fix_c217 X _ _ _ _ hf
set_option maxHeartbeats 4000000 in
set_option maxRecDepth 100000 in
theorem tX4_fix_c32 (X : th_X p0 s m args meth c D cI cZ ad LM 5 RX4 cX4_fix (some .int)) : ∀ (n : Nat) (y1 : Int32) (y2 : Int32) (h : th_H), fX4_fix_c32 n y1 y2 h = some (rr, hh) → th_V p0 l e { frames := 2, cells := 0, slots := 0, locals := 46 } s m args below meth c D cI cZ ad LM 5 (some (.int rr)) hh 32 [.ref 0, .int y1, .int y2, .null, .null] [] h := by
  intro n
  induction n with
  | zero => intro y1 y2 h hf; cases hf
  | succ n ih =>
    intro y1 y2 h hf
    rw [fX4_fix_c32] at hf
    refine V_iload_n (pc := 32) X (th_da dtX4_fix 20 rfl) rfl ?_
    refine V_bipush (pc := 33) (v := 10) X (th_da dtX4_fix 21 rfl) (by decide) ?_
    refine V_icmp_ge (pc := 35) (tgt := 73) X (th_da dtX4_fix 22 rfl) (by decide) (fun c1 => ?_) (fun c1 => ?_)
    · rw [if_pos c1] at hf
      refine V_aload_n (pc := 38) X (th_da dtX4_fix 23 rfl) rfl ?_
      refine V_getR (pc := 39) (j := 12) (t := 12) X (th_da dtX4_fix 24 rfl) wfl_X4_46 iX4 rfl rfl (Nat.le_of_ble_eq_true rfl) rfl ?_
      refine V_aload_n (pc := 42) X (th_da dtX4_fix 25 rfl) rfl ?_
      refine V_getI (pc := 43) (j := 13) X (th_da dtX4_fix 26 rfl) wfl_X4_187 iX4 rfl rfl (Nat.le_of_ble_eq_true rfl) rfl ?_
      refine V_dup2 (pc := 46) X (th_da dtX4_fix 27 rfl) rfl rfl ?_
      obtain ⟨v2, e2, g2, hf⟩ := th_rd_some hf
      refine V_iald (pc := 47) X (th_da dtX4_fix 28 rfl) rfl g2 e2 ?_
      refine V_aload_n (pc := 48) X (th_da dtX4_fix 29 rfl) rfl ?_
      refine V_getR (pc := 49) (j := 14) (t := 13) X (th_da dtX4_fix 30 rfl) wfl_X4_49 iX4 rfl rfl (Nat.le_of_ble_eq_true rfl) rfl ?_
      refine V_iload_n (pc := 52) X (th_da dtX4_fix 31 rfl) rfl ?_
      obtain ⟨v3, e3, g3, hf⟩ := th_rd_some hf
      refine V_iald (pc := 53) X (th_da dtX4_fix 32 rfl) rfl g3 e3 ?_
      refine V_iload_n (pc := 54) X (th_da dtX4_fix 33 rfl) rfl ?_
      refine V_icmp_ne (pc := 55) (tgt := 64) X (th_da dtX4_fix 34 rfl) (by decide) (fun c4 => ?_) (fun c4 => ?_)
      · rw [if_pos c4] at hf
        refine V_iconst (pc := 58) (v := 1) X (th_da dtX4_fix 35 rfl) (by decide) ?_
        refine V_iload_n (pc := 59) X (th_da dtX4_fix 36 rfl) rfl ?_
        refine V_ishl (pc := 60) X (th_da dtX4_fix 37 rfl) ?_
        refine V_goto (pc := 61) (tgt := 65) X (th_da dtX4_fix 38 rfl) (by decide) ?_
        refine V_ior (pc := 65) X (th_da dtX4_fix 40 rfl) ?_
        obtain ⟨h5, e5, g5, hf⟩ := th_wr_some hf
        refine V_iast (pc := 66) X (th_da dtX4_fix 41 rfl) rfl g5 e5 ?_
        refine V_iinc (pc := 67) (v := y2 + 1) (ls2 := [.ref 0, .int y1, .int (y2 + 1), .null, .null]) X (th_da dtX4_fix 42 rfl) rfl rfl (Nat.le_of_ble_eq_true rfl) rfl rfl ?_
        refine V_goto (pc := 70) (tgt := 32) X (th_da dtX4_fix 43 rfl) (by decide) ?_
        exact ih _ _ _ hf
      · rw [if_neg c4] at hf
        refine V_iconst (pc := 64) (v := 0) X (th_da dtX4_fix 39 rfl) (by decide) ?_
        refine V_ior (pc := 65) X (th_da dtX4_fix 40 rfl) ?_
        obtain ⟨h6, e6, g6, hf⟩ := th_wr_some hf
        refine V_iast (pc := 66) X (th_da dtX4_fix 41 rfl) rfl g6 e6 ?_
        refine V_iinc (pc := 67) (v := y2 + 1) (ls2 := [.ref 0, .int y1, .int (y2 + 1), .null, .null]) X (th_da dtX4_fix 42 rfl) rfl rfl (Nat.le_of_ble_eq_true rfl) rfl rfl ?_
        refine V_goto (pc := 70) (tgt := 32) X (th_da dtX4_fix 43 rfl) (by decide) ?_
        exact ih _ _ _ hf
    · rw [if_neg c1] at hf
      refine V_iconst (pc := 73) (v := 0) X (th_da dtX4_fix 44 rfl) (by decide) ?_
      refine V_istore_n (pc := 74) (ls2 := [.ref 0, .int y1, .int 0, .null, .null]) X (th_da dtX4_fix 45 rfl) (Nat.le_of_ble_eq_true rfl) rfl rfl ?_
      exact tX4_fix_c75 X _ _ _ _ hf
set_option maxHeartbeats 4000000 in
set_option maxRecDepth 100000 in
theorem mX4_fix (l : Launch) (x1 : Int32) (h : th_H) (rr : Int32) (hh : th_H) (hf : fX4_fix x1 h = some (rr, hh)) : th_MI l LM yX4_fix cX4_fix 5 (some .int) 2 46 [.ref 0, .int x1] h (some (.int rr)) hh := by
  refine th_MI_of (ls := [.ref 0, .int x1, .null, .null, .null]) RX4 rfl rfl rfl (Nat.le_of_ble_eq_true rfl) ?_
  intro p0 e s m args below meth c D cI cZ ad X
  unfold fX4_fix at hf
  refine V_aload_n (pc := 0) X (th_da dtX4_fix 0 rfl) rfl ?_
  refine V_getR (pc := 1) (j := 10) (t := 10) X (th_da dtX4_fix 1 rfl) wfl_X4_40 iX4 rfl rfl (Nat.le_of_ble_eq_true rfl) rfl ?_
  refine V_aload_n (pc := 4) X (th_da dtX4_fix 2 rfl) rfl ?_
  refine V_getI (pc := 5) (j := 13) X (th_da dtX4_fix 3 rfl) wfl_X4_187 iX4 rfl rfl (Nat.le_of_ble_eq_true rfl) rfl ?_
  refine V_iload_n (pc := 8) X (th_da dtX4_fix 4 rfl) rfl ?_
  obtain ⟨h1, e1, g1, hf⟩ := th_wr_some hf
  refine V_iast (pc := 9) X (th_da dtX4_fix 5 rfl) rfl g1 e1 ?_
  refine V_aload_n (pc := 10) X (th_da dtX4_fix 6 rfl) rfl ?_
  refine V_getR (pc := 11) (j := 11) (t := 11) X (th_da dtX4_fix 7 rfl) wfl_X4_43 iX4 rfl rfl (Nat.le_of_ble_eq_true rfl) rfl ?_
  refine V_aload_n (pc := 14) X (th_da dtX4_fix 8 rfl) rfl ?_
  refine V_getI (pc := 15) (j := 13) X (th_da dtX4_fix 9 rfl) wfl_X4_187 iX4 rfl rfl (Nat.le_of_ble_eq_true rfl) rfl ?_
  refine V_iconst (pc := 18) (v := 0) X (th_da dtX4_fix 10 rfl) (by decide) ?_
  obtain ⟨h2, e2, g2, hf⟩ := th_wr_some hf
  refine V_iast (pc := 19) X (th_da dtX4_fix 11 rfl) rfl g2 e2 ?_
  refine V_aload_n (pc := 20) X (th_da dtX4_fix 12 rfl) rfl ?_
  refine V_getR (pc := 21) (j := 12) (t := 12) X (th_da dtX4_fix 13 rfl) wfl_X4_46 iX4 rfl rfl (Nat.le_of_ble_eq_true rfl) rfl ?_
  refine V_aload_n (pc := 24) X (th_da dtX4_fix 14 rfl) rfl ?_
  refine V_getI (pc := 25) (j := 13) X (th_da dtX4_fix 15 rfl) wfl_X4_187 iX4 rfl rfl (Nat.le_of_ble_eq_true rfl) rfl ?_
  refine V_iconst (pc := 28) (v := 0) X (th_da dtX4_fix 16 rfl) (by decide) ?_
  obtain ⟨h3, e3, g3, hf⟩ := th_wr_some hf
  refine V_iast (pc := 29) X (th_da dtX4_fix 17 rfl) rfl g3 e3 ?_
  refine V_iconst (pc := 30) (v := 0) X (th_da dtX4_fix 18 rfl) (by decide) ?_
  refine V_istore_n (pc := 31) (ls2 := [.ref 0, .int x1, .int 0, .null, .null]) X (th_da dtX4_fix 19 rfl) (Nat.le_of_ble_eq_true rfl) rfl rfl ?_
  exact tX4_fix_c32 X _ _ _ _ hf
end
def fX4_layFair_c68 (k31 : Int32 → th_H → Option (Unit × th_H)) (k40 : Int32 → Int32 → Int32 → th_H → Option (Unit × th_H)) (y1 : Int32) (y2 : Int32) (y3 : Int32) (z1 : Int32) (z2 : Int32) (h : th_H) : Option (Unit × th_H) :=
  th_wr h 13 10 z1 z2 fun h1 =>
  th_rd h1 13 10 y3 fun v2 =>
  if (v2 = (-1) : Prop) then
    k40 y1 y2 (y3 + 1) h1
  else
    th_rd h1 13 10 y3 fun v4 =>
    th_bd (fX4_lesser y2 v4 h1) fun u5 h5 =>
    k40 y1 u5 (y3 + 1) h5
def fX4_layFair_c102 (k31 : Int32 → th_H → Option (Unit × th_H)) : Nat → Int32 → Int32 → Int32 → th_H → Option (Unit × th_H)
  | 0, _, _, _, _ => none
  | n + 1, y1, y2, y3, h =>
    if (y3 < 20 : Prop) then
      th_bd (fX4_isFlow y3 h) fun u2 h2 =>
      if (u2 = 0 : Prop) then
        fX4_layFair_c102 k31 n y1 y2 (y3 + 1) h2
      else
        th_rd h2 7 20 y3 fun v4 =>
        if (v4 = (-1) : Prop) then
          th_bd (fX4_own y3 h2) fun u6 h6 =>
          th_bd (fX4_lesser y2 u6 h6) fun u7 h7 =>
          fX4_layFair_c102 k31 n y1 u7 (y3 + 1) h7
        else
          fX4_layFair_c102 k31 n y1 y2 (y3 + 1) h2
    else
      th_bd (fX4_fix y2 h) fun u8 h8 =>
      k31 (y1 - u8) h8
def fX4_layFair_c40 (k31 : Int32 → th_H → Option (Unit × th_H)) : Nat → Int32 → Int32 → Int32 → th_H → Option (Unit × th_H)
  | 0, _, _, _, _ => none
  | n + 1, y1, y2, y3, h =>
    if (y3 < 10 : Prop) then
      th_bd (fX4_isOpen y3 h) fun u2 h2 =>
      if (u2 = 0 : Prop) then
        fX4_layFair_c68 k31 (fX4_layFair_c40 k31 n) y1 y2 y3 y3 (-1) h2
      else
        th_bd (fX4_tideOf y3 h2) fun u4 h4 =>
        fX4_layFair_c68 k31 (fX4_layFair_c40 k31 n) y1 y2 y3 y3 u4 h4
    else
      fX4_layFair_c102 k31 1000 y1 y2 0 h
def fX4_layFair_c31 : Nat → Int32 → th_H → Option (Unit × th_H)
  | 0, _, _ => none
  | n + 1, y1, h =>
    if (0 < y1 : Prop) then
      fX4_layFair_c40 (fX4_layFair_c31 n) 1000 y1 1000001 0 h
    else
      some ((), h)
def fX4_layFair_c2 : Nat → Int32 → th_H → Option (Unit × th_H)
  | 0, _, _ => none
  | n + 1, y1, h =>
    if (y1 < 20 : Prop) then
      th_wr h 7 20 y1 (-1) fun h2 =>
      fX4_layFair_c2 n (y1 + 1) h2
    else
      th_st (th_up h 0 13 0) fun h3 =>
      th_bd (fX4_flowMany h3) fun u4 h4 =>
      fX4_layFair_c31 1000 u4 h4
def fX4_layFair (h : th_H) : Option (Unit × th_H) :=
  fX4_layFair_c2 1000 0 h
def tbX4_layFair : List (Nat × Instr × Nat) := [(0, .iconst 0, 1), (1, .istore_n 1, 1), (2, .iload_n 1, 1), (3, .bipush 20, 2), (5, .if_icmp .ge 16, 3), (8, .aload_n 0, 1), (9, .getfield 31, 3), (12, .iload_n 1, 1), (13, .iconst (-1), 1), (14, .iastore, 1), (15, .iinc 1 1, 3), (18, .goto (-16), 3), (21, .aload_n 0, 1), (22, .iconst 0, 1), (23, .putfield 187, 3), (26, .aload_n 0, 1), (27, .invokevirtual 128, 3), (30, .istore_n 1, 1), (31, .iload_n 1, 1), (32, .ifCond .le 125, 3), (35, .ldc 154, 2), (37, .istore_n 2, 1), (38, .iconst 0, 1), (39, .istore_n 3, 1), (40, .iload_n 3, 1), (41, .bipush 10, 2), (43, .if_icmp .ge 57, 3), (46, .aload_n 0, 1), (47, .getfield 49, 3), (50, .iload_n 3, 1), (51, .aload_n 0, 1), (52, .iload_n 3, 1), (53, .invokevirtual 190, 3), (56, .ifCond .eq 11, 3), (59, .aload_n 0, 1), (60, .iload_n 3, 1), (61, .invokevirtual 193, 3), (64, .goto 4, 3), (67, .iconst (-1), 1), (68, .iastore, 1), (69, .aload_n 0, 1), (70, .getfield 49, 3), (73, .iload_n 3, 1), (74, .iaload, 1), (75, .iconst (-1), 1), (76, .if_icmp .eq 16, 3), (79, .iload_n 2, 1), (80, .aload_n 0, 1), (81, .getfield 49, 3), (84, .iload_n 3, 1), (85, .iaload, 1), (86, .invokestatic 108, 3), (89, .goto 4, 3), (92, .iload_n 2, 1), (93, .istore_n 2, 1), (94, .iinc 3 1, 3), (97, .goto (-57), 3), (100, .iconst 0, 1), (101, .istore_n 3, 1), (102, .iload_n 3, 1), (103, .bipush 20, 2), (105, .if_icmp .ge 41, 3), (108, .aload_n 0, 1), (109, .iload_n 3, 1), (110, .invokevirtual 125, 3), (113, .ifCond .eq 25, 3), (116, .aload_n 0, 1), (117, .getfield 31, 3), (120, .iload_n 3, 1), (121, .iaload, 1), (122, .iconst (-1), 1), (123, .if_icmp .ne 15, 3), (126, .iload_n 2, 1), (127, .aload_n 0, 1), (128, .iload_n 3, 1), (129, .invokevirtual 162, 3), (132, .invokestatic 108, 3), (135, .goto 4, 3), (138, .iload_n 2, 1), (139, .istore_n 2, 1), (140, .iinc 3 1, 3), (143, .goto (-41), 3), (146, .iload_n 1, 1), (147, .aload_n 0, 1), (148, .iload_n 2, 1), (149, .invokevirtual 196, 3), (152, .isub, 1), (153, .istore_n 1, 1), (154, .goto (-123), 3), (157, .return_, 1)]
theorem dtX4_layFair : th_dec cX4_layFair tbX4_layFair = true := by decide +kernel
section
variable {p0 : Program} {l : Launch} {e : Env} {s : State} {m : MethodId} {args : Array Value} {below : List Frame} {meth : Method} {c : Code} {D : va_G} {cI cZ : ClassId} {ad : Nat → Nat} {rr : Unit} {hh : th_H}
set_option maxHeartbeats 4000000 in
set_option maxRecDepth 100000 in
theorem tX4_layFair_c68 (X : th_X p0 s m args meth c D cI cZ ad LM 4 RX4 cX4_layFair none) (k31 : Int32 → th_H → Option (Unit × th_H)) (k40 : Int32 → Int32 → Int32 → th_H → Option (Unit × th_H)) (hk31 : ∀ (y1 : Int32) (h : th_H), k31 y1 h = some (rr, hh) → th_V p0 l e { frames := 4, cells := 0, slots := 0, locals := 92 } s m args below meth c D cI cZ ad LM 4 none hh 31 [.ref 0, .int y1, .null, .null] [] h) (hk40 : ∀ (y1 : Int32) (y2 : Int32) (y3 : Int32) (h : th_H), k40 y1 y2 y3 h = some (rr, hh) → th_V p0 l e { frames := 4, cells := 0, slots := 0, locals := 92 } s m args below meth c D cI cZ ad LM 4 none hh 40 [.ref 0, .int y1, .int y2, .int y3] [] h) (y1 : Int32) (y2 : Int32) (y3 : Int32) (z1 : Int32) (z2 : Int32) (h : th_H) (hf : fX4_layFair_c68 k31 k40 y1 y2 y3 z1 z2 h = some (rr, hh)) : th_V p0 l e { frames := 4, cells := 0, slots := 0, locals := 92 } s m args below meth c D cI cZ ad LM 4 none hh 68 [.ref 0, .int y1, .int y2, .int y3] [.int z2, .int z1, .ref 13] h := by
  unfold fX4_layFair_c68 at hf
  obtain ⟨h1, e1, g1, hf⟩ := th_wr_some hf
  refine V_iast (pc := 68) X (th_da dtX4_layFair 39 rfl) rfl g1 e1 ?_
  refine V_aload_n (pc := 69) X (th_da dtX4_layFair 40 rfl) rfl ?_
  refine V_getR (pc := 70) (j := 14) (t := 13) X (th_da dtX4_layFair 41 rfl) wfl_X4_49 iX4 rfl rfl (Nat.le_of_ble_eq_true rfl) rfl ?_
  refine V_iload_n (pc := 73) X (th_da dtX4_layFair 42 rfl) rfl ?_
  obtain ⟨v2, e2, g2, hf⟩ := th_rd_some hf
  refine V_iald (pc := 74) X (th_da dtX4_layFair 43 rfl) rfl g2 e2 ?_
  refine V_iconst (pc := 75) (v := (-1)) X (th_da dtX4_layFair 44 rfl) (by decide) ?_
  refine V_icmp_eq (pc := 76) (tgt := 92) X (th_da dtX4_layFair 45 rfl) (by decide) (fun c3 => ?_) (fun c3 => ?_)
  · rw [if_pos c3] at hf
    refine V_iload_n (pc := 92) X (th_da dtX4_layFair 53 rfl) rfl ?_
    refine V_istore_n (pc := 93) (ls2 := [.ref 0, .int y1, .int y2, .int y3]) X (th_da dtX4_layFair 54 rfl) (Nat.le_of_ble_eq_true rfl) rfl rfl ?_
    refine V_iinc (pc := 94) (v := y3 + 1) (ls2 := [.ref 0, .int y1, .int y2, .int (y3 + 1)]) X (th_da dtX4_layFair 55 rfl) rfl rfl (Nat.le_of_ble_eq_true rfl) rfl rfl ?_
    refine V_goto (pc := 97) (tgt := 40) X (th_da dtX4_layFair 56 rfl) (by decide) ?_
    exact hk40 _ _ _ _ hf
  · rw [if_neg c3] at hf
    refine V_iload_n (pc := 79) X (th_da dtX4_layFair 46 rfl) rfl ?_
    refine V_aload_n (pc := 80) X (th_da dtX4_layFair 47 rfl) rfl ?_
    refine V_getR (pc := 81) (j := 14) (t := 13) X (th_da dtX4_layFair 48 rfl) wfl_X4_49 iX4 rfl rfl (Nat.le_of_ble_eq_true rfl) rfl ?_
    refine V_iload_n (pc := 84) X (th_da dtX4_layFair 49 rfl) rfl ?_
    obtain ⟨v4, e4, g4, hf⟩ := th_rd_some hf
    refine V_iald (pc := 85) X (th_da dtX4_layFair 50 rfl) rfl g4 e4 ?_
    obtain ⟨u5, h5, e5, hf⟩ := th_bd_some hf
    refine V_callSi (pc := 86) (As := [.int y2, .int v4]) X (th_da dtX4_layFair 51 rfl) (mX4_lesser l _ _ _ _ _ e5) wcd_X4_lesser wml_X4_108 wst_X4_lesser win_X4_lesser hd_X4_lesser ⟨Nat.le_of_ble_eq_true rfl, Nat.le_of_ble_eq_true rfl⟩ (Nat.le_of_ble_eq_true rfl) rfl ?_
    refine V_goto (pc := 89) (tgt := 93) X (th_da dtX4_layFair 52 rfl) (by decide) ?_
    refine V_istore_n (pc := 93) (ls2 := [.ref 0, .int y1, .int u5, .int y3]) X (th_da dtX4_layFair 54 rfl) (Nat.le_of_ble_eq_true rfl) rfl rfl ?_
    refine V_iinc (pc := 94) (v := y3 + 1) (ls2 := [.ref 0, .int y1, .int u5, .int (y3 + 1)]) X (th_da dtX4_layFair 55 rfl) rfl rfl (Nat.le_of_ble_eq_true rfl) rfl rfl ?_
    refine V_goto (pc := 97) (tgt := 40) X (th_da dtX4_layFair 56 rfl) (by decide) ?_
    exact hk40 _ _ _ _ hf
set_option maxHeartbeats 4000000 in
set_option maxRecDepth 100000 in
theorem tX4_layFair_c102 (X : th_X p0 s m args meth c D cI cZ ad LM 4 RX4 cX4_layFair none) (k31 : Int32 → th_H → Option (Unit × th_H)) (hk31 : ∀ (y1 : Int32) (h : th_H), k31 y1 h = some (rr, hh) → th_V p0 l e { frames := 4, cells := 0, slots := 0, locals := 92 } s m args below meth c D cI cZ ad LM 4 none hh 31 [.ref 0, .int y1, .null, .null] [] h) : ∀ (n : Nat) (y1 : Int32) (y2 : Int32) (y3 : Int32) (h : th_H), fX4_layFair_c102 k31 n y1 y2 y3 h = some (rr, hh) → th_V p0 l e { frames := 4, cells := 0, slots := 0, locals := 92 } s m args below meth c D cI cZ ad LM 4 none hh 102 [.ref 0, .int y1, .int y2, .int y3] [] h := by
  intro n
  induction n with
  | zero => intro y1 y2 y3 h hf; cases hf
  | succ n ih =>
    intro y1 y2 y3 h hf
    rw [fX4_layFair_c102] at hf
    refine V_iload_n (pc := 102) X (th_da dtX4_layFair 59 rfl) rfl ?_
    refine V_bipush (pc := 103) (v := 20) X (th_da dtX4_layFair 60 rfl) (by decide) ?_
    refine V_icmp_ge (pc := 105) (tgt := 146) X (th_da dtX4_layFair 61 rfl) (by decide) (fun c1 => ?_) (fun c1 => ?_)
    · rw [if_pos c1] at hf
      refine V_aload_n (pc := 108) X (th_da dtX4_layFair 62 rfl) rfl ?_
      refine V_iload_n (pc := 109) X (th_da dtX4_layFair 63 rfl) rfl ?_
      obtain ⟨u2, h2, e2, hf⟩ := th_bd_some hf
      refine V_callVi (pc := 110) (q := 0) (As := [.int y3]) X (th_da dtX4_layFair 64 rfl) (mX4_isFlow l _ _ _ _ e2) wcd_X4_isFlow wml_X4_125 wim_X4_isFlow wse_X4_isFlow win_X4_isFlow hd_X4_isFlow ⟨Nat.le_of_ble_eq_true rfl, Nat.le_of_ble_eq_true rfl⟩ (Nat.le_of_ble_eq_true rfl) rfl rfl rfl ?_
      refine V_if_eq (pc := 113) (tgt := 138) X (th_da dtX4_layFair 65 rfl) (by decide) (fun c3 => ?_) (fun c3 => ?_)
      · rw [if_pos c3] at hf
        refine V_iload_n (pc := 138) X (th_da dtX4_layFair 78 rfl) rfl ?_
        refine V_istore_n (pc := 139) (ls2 := [.ref 0, .int y1, .int y2, .int y3]) X (th_da dtX4_layFair 79 rfl) (Nat.le_of_ble_eq_true rfl) rfl rfl ?_
        refine V_iinc (pc := 140) (v := y3 + 1) (ls2 := [.ref 0, .int y1, .int y2, .int (y3 + 1)]) X (th_da dtX4_layFair 80 rfl) rfl rfl (Nat.le_of_ble_eq_true rfl) rfl rfl ?_
        refine V_goto (pc := 143) (tgt := 102) X (th_da dtX4_layFair 81 rfl) (by decide) ?_
        exact ih _ _ _ _ hf
      · rw [if_neg c3] at hf
        refine V_aload_n (pc := 116) X (th_da dtX4_layFair 66 rfl) rfl ?_
        refine V_getR (pc := 117) (j := 7) (t := 7) X (th_da dtX4_layFair 67 rfl) wfl_X4_31 iX4 rfl rfl (Nat.le_of_ble_eq_true rfl) rfl ?_
        refine V_iload_n (pc := 120) X (th_da dtX4_layFair 68 rfl) rfl ?_
        obtain ⟨v4, e4, g4, hf⟩ := th_rd_some hf
        refine V_iald (pc := 121) X (th_da dtX4_layFair 69 rfl) rfl g4 e4 ?_
        refine V_iconst (pc := 122) (v := (-1)) X (th_da dtX4_layFair 70 rfl) (by decide) ?_
        refine V_icmp_ne (pc := 123) (tgt := 138) X (th_da dtX4_layFair 71 rfl) (by decide) (fun c5 => ?_) (fun c5 => ?_)
        · rw [if_pos c5] at hf
          refine V_iload_n (pc := 126) X (th_da dtX4_layFair 72 rfl) rfl ?_
          refine V_aload_n (pc := 127) X (th_da dtX4_layFair 73 rfl) rfl ?_
          refine V_iload_n (pc := 128) X (th_da dtX4_layFair 74 rfl) rfl ?_
          obtain ⟨u6, h6, e6, hf⟩ := th_bd_some hf
          refine V_callVi (pc := 129) (q := 0) (As := [.int y3]) X (th_da dtX4_layFair 75 rfl) (mX4_own l _ _ _ _ e6) wcd_X4_own wml_X4_162 wim_X4_own wse_X4_own win_X4_own hd_X4_own ⟨Nat.le_of_ble_eq_true rfl, Nat.le_of_ble_eq_true rfl⟩ (Nat.le_of_ble_eq_true rfl) rfl rfl rfl ?_
          obtain ⟨u7, h7, e7, hf⟩ := th_bd_some hf
          refine V_callSi (pc := 132) (As := [.int y2, .int u6]) X (th_da dtX4_layFair 76 rfl) (mX4_lesser l _ _ _ _ _ e7) wcd_X4_lesser wml_X4_108 wst_X4_lesser win_X4_lesser hd_X4_lesser ⟨Nat.le_of_ble_eq_true rfl, Nat.le_of_ble_eq_true rfl⟩ (Nat.le_of_ble_eq_true rfl) rfl ?_
          refine V_goto (pc := 135) (tgt := 139) X (th_da dtX4_layFair 77 rfl) (by decide) ?_
          refine V_istore_n (pc := 139) (ls2 := [.ref 0, .int y1, .int u7, .int y3]) X (th_da dtX4_layFair 79 rfl) (Nat.le_of_ble_eq_true rfl) rfl rfl ?_
          refine V_iinc (pc := 140) (v := y3 + 1) (ls2 := [.ref 0, .int y1, .int u7, .int (y3 + 1)]) X (th_da dtX4_layFair 80 rfl) rfl rfl (Nat.le_of_ble_eq_true rfl) rfl rfl ?_
          refine V_goto (pc := 143) (tgt := 102) X (th_da dtX4_layFair 81 rfl) (by decide) ?_
          exact ih _ _ _ _ hf
        · rw [if_neg c5] at hf
          refine V_iload_n (pc := 138) X (th_da dtX4_layFair 78 rfl) rfl ?_
          refine V_istore_n (pc := 139) (ls2 := [.ref 0, .int y1, .int y2, .int y3]) X (th_da dtX4_layFair 79 rfl) (Nat.le_of_ble_eq_true rfl) rfl rfl ?_
          refine V_iinc (pc := 140) (v := y3 + 1) (ls2 := [.ref 0, .int y1, .int y2, .int (y3 + 1)]) X (th_da dtX4_layFair 80 rfl) rfl rfl (Nat.le_of_ble_eq_true rfl) rfl rfl ?_
          refine V_goto (pc := 143) (tgt := 102) X (th_da dtX4_layFair 81 rfl) (by decide) ?_
          exact ih _ _ _ _ hf
    · rw [if_neg c1] at hf
      refine V_iload_n (pc := 146) X (th_da dtX4_layFair 82 rfl) rfl ?_
      refine V_aload_n (pc := 147) X (th_da dtX4_layFair 83 rfl) rfl ?_
      refine V_iload_n (pc := 148) X (th_da dtX4_layFair 84 rfl) rfl ?_
      obtain ⟨u8, h8, e8, hf⟩ := th_bd_some hf
      refine V_callVi (pc := 149) (q := 0) (As := [.int y2]) X (th_da dtX4_layFair 85 rfl) (mX4_fix l _ _ _ _ e8) wcd_X4_fix wml_X4_196 wim_X4_fix wse_X4_fix win_X4_fix hd_X4_fix ⟨Nat.le_of_ble_eq_true rfl, Nat.le_of_ble_eq_true rfl⟩ (Nat.le_of_ble_eq_true rfl) rfl rfl rfl ?_
      refine V_isub (pc := 152) X (th_da dtX4_layFair 86 rfl) ?_
      refine V_istore_n (pc := 153) (ls2 := [.ref 0, .int (y1 - u8), .int y2, .int y3]) X (th_da dtX4_layFair 87 rfl) (Nat.le_of_ble_eq_true rfl) rfl rfl ?_
      refine V_goto (pc := 154) (tgt := 31) X (th_da dtX4_layFair 88 rfl) (by decide) ?_
      refine V_mask [true, true, false, false] (ls2 := [.ref 0, .int (y1 - u8), .null, .null]) rfl ?_
      exact hk31 _ _ hf
set_option maxHeartbeats 4000000 in
set_option maxRecDepth 100000 in
theorem tX4_layFair_c40 (X : th_X p0 s m args meth c D cI cZ ad LM 4 RX4 cX4_layFair none) (k31 : Int32 → th_H → Option (Unit × th_H)) (hk31 : ∀ (y1 : Int32) (h : th_H), k31 y1 h = some (rr, hh) → th_V p0 l e { frames := 4, cells := 0, slots := 0, locals := 92 } s m args below meth c D cI cZ ad LM 4 none hh 31 [.ref 0, .int y1, .null, .null] [] h) : ∀ (n : Nat) (y1 : Int32) (y2 : Int32) (y3 : Int32) (h : th_H), fX4_layFair_c40 k31 n y1 y2 y3 h = some (rr, hh) → th_V p0 l e { frames := 4, cells := 0, slots := 0, locals := 92 } s m args below meth c D cI cZ ad LM 4 none hh 40 [.ref 0, .int y1, .int y2, .int y3] [] h := by
  intro n
  induction n with
  | zero => intro y1 y2 y3 h hf; cases hf
  | succ n ih =>
    intro y1 y2 y3 h hf
    rw [fX4_layFair_c40] at hf
    refine V_iload_n (pc := 40) X (th_da dtX4_layFair 24 rfl) rfl ?_
    refine V_bipush (pc := 41) (v := 10) X (th_da dtX4_layFair 25 rfl) (by decide) ?_
    refine V_icmp_ge (pc := 43) (tgt := 100) X (th_da dtX4_layFair 26 rfl) (by decide) (fun c1 => ?_) (fun c1 => ?_)
    · rw [if_pos c1] at hf
      refine V_aload_n (pc := 46) X (th_da dtX4_layFair 27 rfl) rfl ?_
      refine V_getR (pc := 47) (j := 14) (t := 13) X (th_da dtX4_layFair 28 rfl) wfl_X4_49 iX4 rfl rfl (Nat.le_of_ble_eq_true rfl) rfl ?_
      refine V_iload_n (pc := 50) X (th_da dtX4_layFair 29 rfl) rfl ?_
      refine V_aload_n (pc := 51) X (th_da dtX4_layFair 30 rfl) rfl ?_
      refine V_iload_n (pc := 52) X (th_da dtX4_layFair 31 rfl) rfl ?_
      obtain ⟨u2, h2, e2, hf⟩ := th_bd_some hf
      refine V_callVi (pc := 53) (q := 0) (As := [.int y3]) X (th_da dtX4_layFair 32 rfl) (mX4_isOpen l _ _ _ _ e2) wcd_X4_isOpen wml_X4_190 wim_X4_isOpen wse_X4_isOpen win_X4_isOpen hd_X4_isOpen ⟨Nat.le_of_ble_eq_true rfl, Nat.le_of_ble_eq_true rfl⟩ (Nat.le_of_ble_eq_true rfl) rfl rfl rfl ?_
      refine V_if_eq (pc := 56) (tgt := 67) X (th_da dtX4_layFair 33 rfl) (by decide) (fun c3 => ?_) (fun c3 => ?_)
      · rw [if_pos c3] at hf
        refine V_iconst (pc := 67) (v := (-1)) X (th_da dtX4_layFair 38 rfl) (by decide) ?_
        exact tX4_layFair_c68 X _ _ hk31 ih _ _ _ _ _ _ hf
      · rw [if_neg c3] at hf
        refine V_aload_n (pc := 59) X (th_da dtX4_layFair 34 rfl) rfl ?_
        refine V_iload_n (pc := 60) X (th_da dtX4_layFair 35 rfl) rfl ?_
        obtain ⟨u4, h4, e4, hf⟩ := th_bd_some hf
        refine V_callVi (pc := 61) (q := 0) (As := [.int y3]) X (th_da dtX4_layFair 36 rfl) (mX4_tideOf l _ _ _ _ e4) wcd_X4_tideOf wml_X4_193 wim_X4_tideOf wse_X4_tideOf win_X4_tideOf hd_X4_tideOf ⟨Nat.le_of_ble_eq_true rfl, Nat.le_of_ble_eq_true rfl⟩ (Nat.le_of_ble_eq_true rfl) rfl rfl rfl ?_
        refine V_goto (pc := 64) (tgt := 68) X (th_da dtX4_layFair 37 rfl) (by decide) ?_
        exact tX4_layFair_c68 X _ _ hk31 ih _ _ _ _ _ _ hf
    · rw [if_neg c1] at hf
      refine V_iconst (pc := 100) (v := 0) X (th_da dtX4_layFair 57 rfl) (by decide) ?_
      refine V_istore_n (pc := 101) (ls2 := [.ref 0, .int y1, .int y2, .int 0]) X (th_da dtX4_layFair 58 rfl) (Nat.le_of_ble_eq_true rfl) rfl rfl ?_
      exact tX4_layFair_c102 X _ hk31 _ _ _ _ _ hf
set_option maxHeartbeats 4000000 in
set_option maxRecDepth 100000 in
theorem tX4_layFair_c31 (X : th_X p0 s m args meth c D cI cZ ad LM 4 RX4 cX4_layFair none) : ∀ (n : Nat) (y1 : Int32) (h : th_H), fX4_layFair_c31 n y1 h = some (rr, hh) → th_V p0 l e { frames := 4, cells := 0, slots := 0, locals := 92 } s m args below meth c D cI cZ ad LM 4 none hh 31 [.ref 0, .int y1, .null, .null] [] h := by
  intro n
  induction n with
  | zero => intro y1 h hf; cases hf
  | succ n ih =>
    intro y1 h hf
    rw [fX4_layFair_c31] at hf
    refine V_iload_n (pc := 31) X (th_da dtX4_layFair 18 rfl) rfl ?_
    refine V_if_le (pc := 32) (tgt := 157) X (th_da dtX4_layFair 19 rfl) (by decide) (fun c1 => ?_) (fun c1 => ?_)
    · rw [if_pos c1] at hf
      refine V_ldc (pc := 35) (v := 1000001) X (th_da dtX4_layFair 20 rfl) wco_X4_154 ?_
      refine V_istore_n (pc := 37) (ls2 := [.ref 0, .int y1, .int 1000001, .null]) X (th_da dtX4_layFair 21 rfl) (Nat.le_of_ble_eq_true rfl) rfl rfl ?_
      refine V_iconst (pc := 38) (v := 0) X (th_da dtX4_layFair 22 rfl) (by decide) ?_
      refine V_istore_n (pc := 39) (ls2 := [.ref 0, .int y1, .int 1000001, .int 0]) X (th_da dtX4_layFair 23 rfl) (Nat.le_of_ble_eq_true rfl) rfl rfl ?_
      exact tX4_layFair_c40 X _ ih _ _ _ _ _ hf
    · rw [if_neg c1] at hf
      exact V_vretF (pc := 157) X (th_da dtX4_layFair 89 rfl) hf
set_option maxHeartbeats 4000000 in
set_option maxRecDepth 100000 in
theorem tX4_layFair_c2 (X : th_X p0 s m args meth c D cI cZ ad LM 4 RX4 cX4_layFair none) : ∀ (n : Nat) (y1 : Int32) (h : th_H), fX4_layFair_c2 n y1 h = some (rr, hh) → th_V p0 l e { frames := 4, cells := 0, slots := 0, locals := 92 } s m args below meth c D cI cZ ad LM 4 none hh 2 [.ref 0, .int y1, .null, .null] [] h := by
  intro n
  induction n with
  | zero => intro y1 h hf; cases hf
  | succ n ih =>
    intro y1 h hf
    rw [fX4_layFair_c2] at hf
    refine V_iload_n (pc := 2) X (th_da dtX4_layFair 2 rfl) rfl ?_
    refine V_bipush (pc := 3) (v := 20) X (th_da dtX4_layFair 3 rfl) (by decide) ?_
    refine V_icmp_ge (pc := 5) (tgt := 21) X (th_da dtX4_layFair 4 rfl) (by decide) (fun c1 => ?_) (fun c1 => ?_)
    · rw [if_pos c1] at hf
      refine V_aload_n (pc := 8) X (th_da dtX4_layFair 5 rfl) rfl ?_
      refine V_getR (pc := 9) (j := 7) (t := 7) X (th_da dtX4_layFair 6 rfl) wfl_X4_31 iX4 rfl rfl (Nat.le_of_ble_eq_true rfl) rfl ?_
      refine V_iload_n (pc := 12) X (th_da dtX4_layFair 7 rfl) rfl ?_
      refine V_iconst (pc := 13) (v := (-1)) X (th_da dtX4_layFair 8 rfl) (by decide) ?_
      obtain ⟨h2, e2, g2, hf⟩ := th_wr_some hf
      refine V_iast (pc := 14) X (th_da dtX4_layFair 9 rfl) rfl g2 e2 ?_
      refine V_iinc (pc := 15) (v := y1 + 1) (ls2 := [.ref 0, .int (y1 + 1), .null, .null]) X (th_da dtX4_layFair 10 rfl) rfl rfl (Nat.le_of_ble_eq_true rfl) rfl rfl ?_
      refine V_goto (pc := 18) (tgt := 2) X (th_da dtX4_layFair 11 rfl) (by decide) ?_
      exact ih _ _ hf
    · rw [if_neg c1] at hf
      refine V_aload_n (pc := 21) X (th_da dtX4_layFair 12 rfl) rfl ?_
      refine V_iconst (pc := 22) (v := 0) X (th_da dtX4_layFair 13 rfl) (by decide) ?_
      obtain ⟨h3, e3, hf⟩ := th_st_some hf
      refine V_putI (pc := 23) (j := 13) (ty := .int) X (th_da dtX4_layFair 14 rfl) wfl_X4_187 iX4 rfl rfl (Nat.le_of_ble_eq_true rfl) rfl tyX4 tyX4_ok nmX4 rfl (tyX4_ok 13 (Nat.le_of_ble_eq_true rfl)) rfl rfl e3 ?_
      refine V_aload_n (pc := 26) X (th_da dtX4_layFair 15 rfl) rfl ?_
      obtain ⟨u4, h4, e4, hf⟩ := th_bd_some hf
      refine V_callVi (pc := 27) (q := 0) (As := []) X (th_da dtX4_layFair 16 rfl) (mX4_flowMany l _ _ _ e4) wcd_X4_flowMany wml_X4_128 wim_X4_flowMany wse_X4_flowMany win_X4_flowMany hd_X4_flowMany ⟨Nat.le_of_ble_eq_true rfl, Nat.le_of_ble_eq_true rfl⟩ (Nat.le_of_ble_eq_true rfl) rfl rfl rfl ?_
      refine V_istore_n (pc := 30) (ls2 := [.ref 0, .int u4, .null, .null]) X (th_da dtX4_layFair 17 rfl) (Nat.le_of_ble_eq_true rfl) rfl rfl ?_
      exact tX4_layFair_c31 X _ _ _ hf
set_option maxHeartbeats 4000000 in
set_option maxRecDepth 100000 in
theorem mX4_layFair (l : Launch) (h : th_H) (rr : Unit) (hh : th_H) (hf : fX4_layFair h = some (rr, hh)) : th_MI l LM yX4_layFair cX4_layFair 4 none 4 92 [.ref 0] h none hh := by
  refine th_MI_of (ls := [.ref 0, .null, .null, .null]) RX4 rfl rfl rfl (Nat.le_of_ble_eq_true rfl) ?_
  intro p0 e s m args below meth c D cI cZ ad X
  unfold fX4_layFair at hf
  refine V_iconst (pc := 0) (v := 0) X (th_da dtX4_layFair 0 rfl) (by decide) ?_
  refine V_istore_n (pc := 1) (ls2 := [.ref 0, .int 0, .null, .null]) X (th_da dtX4_layFair 1 rfl) (Nat.le_of_ble_eq_true rfl) rfl rfl ?_
  exact tX4_layFair_c2 X _ _ _ hf
end
def fX4_allRates_c4 : Nat → Int32 → Int32 → th_H → Option (Int32 × th_H)
  | 0, _, _, _ => none
  | n + 1, y1, y2, h =>
    if (y2 < 20 : Prop) then
      th_bd (fX4_isFlow y2 h) fun u2 h2 =>
      if (u2 = 0 : Prop) then
        fX4_allRates_c4 n (y1 + 0) (y2 + 1) h2
      else
        th_bd (fX4_fairRate y2 h2) fun u4 h4 =>
        fX4_allRates_c4 n (y1 + u4) (y2 + 1) h4
    else
      some (y1, h)
def fX4_allRates (h : th_H) : Option (Int32 × th_H) :=
  fX4_allRates_c4 1000 0 0 h
def tbX4_allRates : List (Nat × Instr × Nat) := [(0, .iconst 0, 1), (1, .istore_n 1, 1), (2, .iconst 0, 1), (3, .istore_n 2, 1), (4, .iload_n 2, 1), (5, .bipush 20, 2), (7, .if_icmp .ge 29, 3), (10, .iload_n 1, 1), (11, .aload_n 0, 1), (12, .iload_n 2, 1), (13, .invokevirtual 125, 3), (16, .ifCond .eq 11, 3), (19, .aload_n 0, 1), (20, .iload_n 2, 1), (21, .invokevirtual 199, 3), (24, .goto 4, 3), (27, .iconst 0, 1), (28, .iadd, 1), (29, .istore_n 1, 1), (30, .iinc 2 1, 3), (33, .goto (-29), 3), (36, .iload_n 1, 1), (37, .ireturn, 1)]
theorem dtX4_allRates : th_dec cX4_allRates tbX4_allRates = true := by decide +kernel
section
variable {p0 : Program} {l : Launch} {e : Env} {s : State} {m : MethodId} {args : Array Value} {below : List Frame} {meth : Method} {c : Code} {D : va_G} {cI cZ : ClassId} {ad : Nat → Nat} {rr : Int32} {hh : th_H}
set_option maxHeartbeats 4000000 in
set_option maxRecDepth 100000 in
theorem tX4_allRates_c4 (X : th_X p0 s m args meth c D cI cZ ad LM 3 RX4 cX4_allRates (some .int)) : ∀ (n : Nat) (y1 : Int32) (y2 : Int32) (h : th_H), fX4_allRates_c4 n y1 y2 h = some (rr, hh) → th_V p0 l e { frames := 3, cells := 0, slots := 0, locals := 64 } s m args below meth c D cI cZ ad LM 3 (some (.int rr)) hh 4 [.ref 0, .int y1, .int y2] [] h := by
  intro n
  induction n with
  | zero => intro y1 y2 h hf; cases hf
  | succ n ih =>
    intro y1 y2 h hf
    rw [fX4_allRates_c4] at hf
    refine V_iload_n (pc := 4) X (th_da dtX4_allRates 4 rfl) rfl ?_
    refine V_bipush (pc := 5) (v := 20) X (th_da dtX4_allRates 5 rfl) (by decide) ?_
    refine V_icmp_ge (pc := 7) (tgt := 36) X (th_da dtX4_allRates 6 rfl) (by decide) (fun c1 => ?_) (fun c1 => ?_)
    · rw [if_pos c1] at hf
      refine V_iload_n (pc := 10) X (th_da dtX4_allRates 7 rfl) rfl ?_
      refine V_aload_n (pc := 11) X (th_da dtX4_allRates 8 rfl) rfl ?_
      refine V_iload_n (pc := 12) X (th_da dtX4_allRates 9 rfl) rfl ?_
      obtain ⟨u2, h2, e2, hf⟩ := th_bd_some hf
      refine V_callVi (pc := 13) (q := 0) (As := [.int y2]) X (th_da dtX4_allRates 10 rfl) (mX4_isFlow l _ _ _ _ e2) wcd_X4_isFlow wml_X4_125 wim_X4_isFlow wse_X4_isFlow win_X4_isFlow hd_X4_isFlow ⟨Nat.le_of_ble_eq_true rfl, Nat.le_of_ble_eq_true rfl⟩ (Nat.le_of_ble_eq_true rfl) rfl rfl rfl ?_
      refine V_if_eq (pc := 16) (tgt := 27) X (th_da dtX4_allRates 11 rfl) (by decide) (fun c3 => ?_) (fun c3 => ?_)
      · rw [if_pos c3] at hf
        refine V_iconst (pc := 27) (v := 0) X (th_da dtX4_allRates 16 rfl) (by decide) ?_
        refine V_iadd (pc := 28) X (th_da dtX4_allRates 17 rfl) ?_
        refine V_istore_n (pc := 29) (ls2 := [.ref 0, .int (y1 + 0), .int y2]) X (th_da dtX4_allRates 18 rfl) (Nat.le_of_ble_eq_true rfl) rfl rfl ?_
        refine V_iinc (pc := 30) (v := y2 + 1) (ls2 := [.ref 0, .int (y1 + 0), .int (y2 + 1)]) X (th_da dtX4_allRates 19 rfl) rfl rfl (Nat.le_of_ble_eq_true rfl) rfl rfl ?_
        refine V_goto (pc := 33) (tgt := 4) X (th_da dtX4_allRates 20 rfl) (by decide) ?_
        exact ih _ _ _ hf
      · rw [if_neg c3] at hf
        refine V_aload_n (pc := 19) X (th_da dtX4_allRates 12 rfl) rfl ?_
        refine V_iload_n (pc := 20) X (th_da dtX4_allRates 13 rfl) rfl ?_
        obtain ⟨u4, h4, e4, hf⟩ := th_bd_some hf
        refine V_callVi (pc := 21) (q := 0) (As := [.int y2]) X (th_da dtX4_allRates 14 rfl) (mX4_fairRate l _ _ _ _ e4) wcd_X4_fairRate wml_X4_199 wim_X4_fairRate wse_X4_fairRate win_X4_fairRate hd_X4_fairRate ⟨Nat.le_of_ble_eq_true rfl, Nat.le_of_ble_eq_true rfl⟩ (Nat.le_of_ble_eq_true rfl) rfl rfl rfl ?_
        refine V_goto (pc := 24) (tgt := 28) X (th_da dtX4_allRates 15 rfl) (by decide) ?_
        refine V_iadd (pc := 28) X (th_da dtX4_allRates 17 rfl) ?_
        refine V_istore_n (pc := 29) (ls2 := [.ref 0, .int (y1 + u4), .int y2]) X (th_da dtX4_allRates 18 rfl) (Nat.le_of_ble_eq_true rfl) rfl rfl ?_
        refine V_iinc (pc := 30) (v := y2 + 1) (ls2 := [.ref 0, .int (y1 + u4), .int (y2 + 1)]) X (th_da dtX4_allRates 19 rfl) rfl rfl (Nat.le_of_ble_eq_true rfl) rfl rfl ?_
        refine V_goto (pc := 33) (tgt := 4) X (th_da dtX4_allRates 20 rfl) (by decide) ?_
        exact ih _ _ _ hf
    · rw [if_neg c1] at hf
      refine V_iload_n (pc := 36) X (th_da dtX4_allRates 21 rfl) rfl ?_
      exact V_iretF (pc := 37) X (th_da dtX4_allRates 22 rfl) hf
set_option maxHeartbeats 4000000 in
set_option maxRecDepth 100000 in
theorem mX4_allRates (l : Launch) (h : th_H) (rr : Int32) (hh : th_H) (hf : fX4_allRates h = some (rr, hh)) : th_MI l LM yX4_allRates cX4_allRates 3 (some .int) 3 64 [.ref 0] h (some (.int rr)) hh := by
  refine th_MI_of (ls := [.ref 0, .null, .null]) RX4 rfl rfl rfl (Nat.le_of_ble_eq_true rfl) ?_
  intro p0 e s m args below meth c D cI cZ ad X
  unfold fX4_allRates at hf
  refine V_iconst (pc := 0) (v := 0) X (th_da dtX4_allRates 0 rfl) (by decide) ?_
  refine V_istore_n (pc := 1) (ls2 := [.ref 0, .int 0, .null]) X (th_da dtX4_allRates 1 rfl) (Nat.le_of_ble_eq_true rfl) rfl rfl ?_
  refine V_iconst (pc := 2) (v := 0) X (th_da dtX4_allRates 2 rfl) (by decide) ?_
  refine V_istore_n (pc := 3) (ls2 := [.ref 0, .int 0, .int 0]) X (th_da dtX4_allRates 3 rfl) (Nat.le_of_ble_eq_true rfl) rfl rfl ?_
  exact tX4_allRates_c4 X _ _ _ _ hf
end
def fX4_usedOf_c4 : Nat → Int32 → Int32 → Int32 → th_H → Option (Int32 × th_H)
  | 0, _, _, _, _ => none
  | n + 1, y1, y2, y3, h =>
    if (y3 < 20 : Prop) then
      th_bd (fX4_goesOver y3 y1 h) fun u2 h2 =>
      if (u2 = 0 : Prop) then
        fX4_usedOf_c4 n y1 (y2 + 0) (y3 + 1) h2
      else
        th_bd (fX4_fairRate y3 h2) fun u4 h4 =>
        fX4_usedOf_c4 n y1 (y2 + u4) (y3 + 1) h4
    else
      some (y2, h)
def fX4_usedOf (x1 : Int32) (h : th_H) : Option (Int32 × th_H) :=
  fX4_usedOf_c4 1000 x1 0 0 h
def tbX4_usedOf : List (Nat × Instr × Nat) := [(0, .iconst 0, 1), (1, .istore_n 2, 1), (2, .iconst 0, 1), (3, .istore_n 3, 1), (4, .iload_n 3, 1), (5, .bipush 20, 2), (7, .if_icmp .ge 30, 3), (10, .iload_n 2, 1), (11, .aload_n 0, 1), (12, .iload_n 3, 1), (13, .iload_n 1, 1), (14, .invokevirtual 75, 3), (17, .ifCond .eq 11, 3), (20, .aload_n 0, 1), (21, .iload_n 3, 1), (22, .invokevirtual 199, 3), (25, .goto 4, 3), (28, .iconst 0, 1), (29, .iadd, 1), (30, .istore_n 2, 1), (31, .iinc 3 1, 3), (34, .goto (-30), 3), (37, .iload_n 2, 1), (38, .ireturn, 1)]
theorem dtX4_usedOf : th_dec cX4_usedOf tbX4_usedOf = true := by decide +kernel
section
variable {p0 : Program} {l : Launch} {e : Env} {s : State} {m : MethodId} {args : Array Value} {below : List Frame} {meth : Method} {c : Code} {D : va_G} {cI cZ : ClassId} {ad : Nat → Nat} {rr : Int32} {hh : th_H}
set_option maxHeartbeats 4000000 in
set_option maxRecDepth 100000 in
theorem tX4_usedOf_c4 (X : th_X p0 s m args meth c D cI cZ ad LM 4 RX4 cX4_usedOf (some .int)) : ∀ (n : Nat) (y1 : Int32) (y2 : Int32) (y3 : Int32) (h : th_H), fX4_usedOf_c4 n y1 y2 y3 h = some (rr, hh) → th_V p0 l e { frames := 3, cells := 0, slots := 0, locals := 64 } s m args below meth c D cI cZ ad LM 4 (some (.int rr)) hh 4 [.ref 0, .int y1, .int y2, .int y3] [] h := by
  intro n
  induction n with
  | zero => intro y1 y2 y3 h hf; cases hf
  | succ n ih =>
    intro y1 y2 y3 h hf
    rw [fX4_usedOf_c4] at hf
    refine V_iload_n (pc := 4) X (th_da dtX4_usedOf 4 rfl) rfl ?_
    refine V_bipush (pc := 5) (v := 20) X (th_da dtX4_usedOf 5 rfl) (by decide) ?_
    refine V_icmp_ge (pc := 7) (tgt := 37) X (th_da dtX4_usedOf 6 rfl) (by decide) (fun c1 => ?_) (fun c1 => ?_)
    · rw [if_pos c1] at hf
      refine V_iload_n (pc := 10) X (th_da dtX4_usedOf 7 rfl) rfl ?_
      refine V_aload_n (pc := 11) X (th_da dtX4_usedOf 8 rfl) rfl ?_
      refine V_iload_n (pc := 12) X (th_da dtX4_usedOf 9 rfl) rfl ?_
      refine V_iload_n (pc := 13) X (th_da dtX4_usedOf 10 rfl) rfl ?_
      obtain ⟨u2, h2, e2, hf⟩ := th_bd_some hf
      refine V_callVi (pc := 14) (q := 0) (As := [.int y3, .int y1]) X (th_da dtX4_usedOf 11 rfl) (mX4_goesOver l _ _ _ _ _ e2) wcd_X4_goesOver wml_X4_75 wim_X4_goesOver wse_X4_goesOver win_X4_goesOver hd_X4_goesOver ⟨Nat.le_of_ble_eq_true rfl, Nat.le_of_ble_eq_true rfl⟩ (Nat.le_of_ble_eq_true rfl) rfl rfl rfl ?_
      refine V_if_eq (pc := 17) (tgt := 28) X (th_da dtX4_usedOf 12 rfl) (by decide) (fun c3 => ?_) (fun c3 => ?_)
      · rw [if_pos c3] at hf
        refine V_iconst (pc := 28) (v := 0) X (th_da dtX4_usedOf 17 rfl) (by decide) ?_
        refine V_iadd (pc := 29) X (th_da dtX4_usedOf 18 rfl) ?_
        refine V_istore_n (pc := 30) (ls2 := [.ref 0, .int y1, .int (y2 + 0), .int y3]) X (th_da dtX4_usedOf 19 rfl) (Nat.le_of_ble_eq_true rfl) rfl rfl ?_
        refine V_iinc (pc := 31) (v := y3 + 1) (ls2 := [.ref 0, .int y1, .int (y2 + 0), .int (y3 + 1)]) X (th_da dtX4_usedOf 20 rfl) rfl rfl (Nat.le_of_ble_eq_true rfl) rfl rfl ?_
        refine V_goto (pc := 34) (tgt := 4) X (th_da dtX4_usedOf 21 rfl) (by decide) ?_
        exact ih _ _ _ _ hf
      · rw [if_neg c3] at hf
        refine V_aload_n (pc := 20) X (th_da dtX4_usedOf 13 rfl) rfl ?_
        refine V_iload_n (pc := 21) X (th_da dtX4_usedOf 14 rfl) rfl ?_
        obtain ⟨u4, h4, e4, hf⟩ := th_bd_some hf
        refine V_callVi (pc := 22) (q := 0) (As := [.int y3]) X (th_da dtX4_usedOf 15 rfl) (mX4_fairRate l _ _ _ _ e4) wcd_X4_fairRate wml_X4_199 wim_X4_fairRate wse_X4_fairRate win_X4_fairRate hd_X4_fairRate ⟨Nat.le_of_ble_eq_true rfl, Nat.le_of_ble_eq_true rfl⟩ (Nat.le_of_ble_eq_true rfl) rfl rfl rfl ?_
        refine V_goto (pc := 25) (tgt := 29) X (th_da dtX4_usedOf 16 rfl) (by decide) ?_
        refine V_iadd (pc := 29) X (th_da dtX4_usedOf 18 rfl) ?_
        refine V_istore_n (pc := 30) (ls2 := [.ref 0, .int y1, .int (y2 + u4), .int y3]) X (th_da dtX4_usedOf 19 rfl) (Nat.le_of_ble_eq_true rfl) rfl rfl ?_
        refine V_iinc (pc := 31) (v := y3 + 1) (ls2 := [.ref 0, .int y1, .int (y2 + u4), .int (y3 + 1)]) X (th_da dtX4_usedOf 20 rfl) rfl rfl (Nat.le_of_ble_eq_true rfl) rfl rfl ?_
        refine V_goto (pc := 34) (tgt := 4) X (th_da dtX4_usedOf 21 rfl) (by decide) ?_
        exact ih _ _ _ _ hf
    · rw [if_neg c1] at hf
      refine V_iload_n (pc := 37) X (th_da dtX4_usedOf 22 rfl) rfl ?_
      exact V_iretF (pc := 38) X (th_da dtX4_usedOf 23 rfl) hf
set_option maxHeartbeats 4000000 in
set_option maxRecDepth 100000 in
theorem mX4_usedOf (l : Launch) (x1 : Int32) (h : th_H) (rr : Int32) (hh : th_H) (hf : fX4_usedOf x1 h = some (rr, hh)) : th_MI l LM yX4_usedOf cX4_usedOf 4 (some .int) 3 64 [.ref 0, .int x1] h (some (.int rr)) hh := by
  refine th_MI_of (ls := [.ref 0, .int x1, .null, .null]) RX4 rfl rfl rfl (Nat.le_of_ble_eq_true rfl) ?_
  intro p0 e s m args below meth c D cI cZ ad X
  unfold fX4_usedOf at hf
  refine V_iconst (pc := 0) (v := 0) X (th_da dtX4_usedOf 0 rfl) (by decide) ?_
  refine V_istore_n (pc := 1) (ls2 := [.ref 0, .int x1, .int 0, .null]) X (th_da dtX4_usedOf 1 rfl) (Nat.le_of_ble_eq_true rfl) rfl rfl ?_
  refine V_iconst (pc := 2) (v := 0) X (th_da dtX4_usedOf 2 rfl) (by decide) ?_
  refine V_istore_n (pc := 3) (ls2 := [.ref 0, .int x1, .int 0, .int 0]) X (th_da dtX4_usedOf 3 rfl) (Nat.le_of_ble_eq_true rfl) rfl rfl ?_
  exact tX4_usedOf_c4 X _ _ _ _ _ hf
end
def fX4_leastLevel (h : th_H) : Option (Int32 × th_H) :=
  if ((h.1 0 13) = 0 : Prop) then
    some ((-1), h)
  else
    th_rd h 10 20 0 fun v2 =>
    some (v2, h)
def tbX4_leastLevel : List (Nat × Instr × Nat) := [(0, .aload_n 0, 1), (1, .getfield 187, 3), (4, .ifCond .ne 7, 3), (7, .iconst (-1), 1), (8, .goto 9, 3), (11, .aload_n 0, 1), (12, .getfield 40, 3), (15, .iconst 0, 1), (16, .iaload, 1), (17, .ireturn, 1)]
theorem dtX4_leastLevel : th_dec cX4_leastLevel tbX4_leastLevel = true := by decide +kernel
section
variable {p0 : Program} {l : Launch} {e : Env} {s : State} {m : MethodId} {args : Array Value} {below : List Frame} {meth : Method} {c : Code} {D : va_G} {cI cZ : ClassId} {ad : Nat → Nat} {rr : Int32} {hh : th_H}
set_option maxHeartbeats 4000000 in
set_option maxRecDepth 100000 in
theorem mX4_leastLevel (l : Launch) (h : th_H) (rr : Int32) (hh : th_H) (hf : fX4_leastLevel h = some (rr, hh)) : th_MI l LM yX4_leastLevel cX4_leastLevel 1 (some .int) 0 0 [.ref 0] h (some (.int rr)) hh := by
  refine th_MI_of (ls := [.ref 0]) RX4 rfl rfl rfl (Nat.le_of_ble_eq_true rfl) ?_
  intro p0 e s m args below meth c D cI cZ ad X
  unfold fX4_leastLevel at hf
  refine V_aload_n (pc := 0) X (th_da dtX4_leastLevel 0 rfl) rfl ?_
  refine V_getI (pc := 1) (j := 13) X (th_da dtX4_leastLevel 1 rfl) wfl_X4_187 iX4 rfl rfl (Nat.le_of_ble_eq_true rfl) rfl ?_
  refine V_if_ne (pc := 4) (tgt := 11) X (th_da dtX4_leastLevel 2 rfl) (by decide) (fun c1 => ?_) (fun c1 => ?_)
  · rw [if_pos c1] at hf
    refine V_iconst (pc := 7) (v := (-1)) X (th_da dtX4_leastLevel 3 rfl) (by decide) ?_
    refine V_goto (pc := 8) (tgt := 17) X (th_da dtX4_leastLevel 4 rfl) (by decide) ?_
    exact V_iretF (pc := 17) X (th_da dtX4_leastLevel 9 rfl) hf
  · rw [if_neg c1] at hf
    refine V_aload_n (pc := 11) X (th_da dtX4_leastLevel 5 rfl) rfl ?_
    refine V_getR (pc := 12) (j := 10) (t := 10) X (th_da dtX4_leastLevel 6 rfl) wfl_X4_40 iX4 rfl rfl (Nat.le_of_ble_eq_true rfl) rfl ?_
    refine V_iconst (pc := 15) (v := 0) X (th_da dtX4_leastLevel 7 rfl) (by decide) ?_
    obtain ⟨v2, e2, g2, hf⟩ := th_rd_some hf
    refine V_iald (pc := 16) X (th_da dtX4_leastLevel 8 rfl) rfl g2 e2 ?_
    exact V_iretF (pc := 17) X (th_da dtX4_leastLevel 9 rfl) hf
end
def fX4_links_c31 : Nat → Int32 → Int32 → Int32 → Int32 → th_H → Option (Int32 × th_H)
  | 0, _, _, _, _, _ => none
  | n + 1, y1, y2, y3, y4, h =>
    if (y4 < 20 : Prop) then
      th_bd (fX4_goesOver y4 y1 h) fun u2 h2 =>
      if (u2 = 0 : Prop) then
        fX4_links_c31 n y1 y2 (y3 ||| 0) (y4 + 1) h2
      else
        fX4_links_c31 n y1 y2 (y3 ||| ((1 : Int32) <<< (y4 &&& 31))) (y4 + 1) h2
    else
      if (y2 = 0 : Prop) then
        th_rd h 2 643 ((3 : Int32) + y1) fun v5 =>
        some (v5, h)
      else
        if (y2 = 1 : Prop) then
          th_bd (fX4_bound y1 h) fun u7 h7 =>
          some (u7, h7)
        else
          some (y3, h)
def fX4_links (x1 : Int32) (x2 : Int32) (h : th_H) : Option (Int32 × th_H) :=
  th_st (th_up h 0 0 0) fun h1 =>
  th_bd (fX4_isLink x1 h1) fun u2 h2 =>
  if (u2 = 0 : Prop) then
    some ((-1), h2)
  else
    th_bd (fX4_in (Int32.toInt64 x2) 0 2 h2) fun u4 h4 =>
    if (u4 = 0 : Prop) then
      some ((-1), h4)
    else
      fX4_links_c31 1000 x1 x2 0 0 h4
def tbX4_links : List (Nat × Instr × Nat) := [(0, .aload_n 0, 1), (1, .iconst 0, 1), (2, .putfield 55, 3), (5, .iload_n 1, 1), (6, .invokestatic 82, 3), (9, .ifCond .eq 15, 3), (12, .iload_n 2, 1), (13, .i2l, 1), (14, .lconst 0, 1), (15, .ldc2_w 131, 3), (18, .invokestatic 63, 3), (21, .ifCond .ne 5, 3), (24, .iconst (-1), 1), (25, .ireturn, 1), (26, .iconst 0, 1), (27, .istore_n 3, 1), (28, .iconst 0, 1), (29, .istore 4, 2), (31, .iload 4, 2), (33, .bipush 20, 2), (35, .if_icmp .ge 30, 3), (38, .iload_n 3, 1), (39, .aload_n 0, 1), (40, .iload 4, 2), (42, .iload_n 1, 1), (43, .invokevirtual 75, 3), (46, .ifCond .eq 10, 3), (49, .iconst 1, 1), (50, .iload 4, 2), (52, .ishl, 1), (53, .goto 4, 3), (56, .iconst 0, 1), (57, .ior, 1), (58, .istore_n 3, 1), (59, .iinc 4 1, 3), (62, .goto (-31), 3), (65, .iload_n 2, 1), (66, .ifCond .ne 14, 3), (69, .aload_n 0, 1), (70, .getfield 15, 3), (73, .iconst 3, 1), (74, .iload_n 1, 1), (75, .iadd, 1), (76, .iaload, 1), (77, .goto 17, 3), (80, .iload_n 2, 1), (81, .iconst 1, 1), (82, .if_icmp .ne 11, 3), (85, .aload_n 0, 1), (86, .iload_n 1, 1), (87, .invokevirtual 79, 3), (90, .goto 4, 3), (93, .iload_n 3, 1), (94, .ireturn, 1)]
theorem dtX4_links : th_dec cX4_links tbX4_links = true := by decide +kernel
section
variable {p0 : Program} {l : Launch} {e : Env} {s : State} {m : MethodId} {args : Array Value} {below : List Frame} {meth : Method} {c : Code} {D : va_G} {cI cZ : ClassId} {ad : Nat → Nat} {rr : Int32} {hh : th_H}
set_option maxHeartbeats 4000000 in
set_option maxRecDepth 100000 in
theorem tX4_links_c31 (X : th_X p0 s m args meth c D cI cZ ad LM 5 RX4 cX4_links (some .int)) : ∀ (n : Nat) (y1 : Int32) (y2 : Int32) (y3 : Int32) (y4 : Int32) (h : th_H), fX4_links_c31 n y1 y2 y3 y4 h = some (rr, hh) → th_V p0 l e { frames := 3, cells := 0, slots := 0, locals := 65 } s m args below meth c D cI cZ ad LM 5 (some (.int rr)) hh 31 [.ref 0, .int y1, .int y2, .int y3, .int y4] [] h := by
  intro n
  induction n with
  | zero => intro y1 y2 y3 y4 h hf; cases hf
  | succ n ih =>
    intro y1 y2 y3 y4 h hf
    rw [fX4_links_c31] at hf
    refine V_iload (pc := 31) X (th_da dtX4_links 18 rfl) rfl ?_
    refine V_bipush (pc := 33) (v := 20) X (th_da dtX4_links 19 rfl) (by decide) ?_
    refine V_icmp_ge (pc := 35) (tgt := 65) X (th_da dtX4_links 20 rfl) (by decide) (fun c1 => ?_) (fun c1 => ?_)
    · rw [if_pos c1] at hf
      refine V_iload_n (pc := 38) X (th_da dtX4_links 21 rfl) rfl ?_
      refine V_aload_n (pc := 39) X (th_da dtX4_links 22 rfl) rfl ?_
      refine V_iload (pc := 40) X (th_da dtX4_links 23 rfl) rfl ?_
      refine V_iload_n (pc := 42) X (th_da dtX4_links 24 rfl) rfl ?_
      obtain ⟨u2, h2, e2, hf⟩ := th_bd_some hf
      refine V_callVi (pc := 43) (q := 0) (As := [.int y4, .int y1]) X (th_da dtX4_links 25 rfl) (mX4_goesOver l _ _ _ _ _ e2) wcd_X4_goesOver wml_X4_75 wim_X4_goesOver wse_X4_goesOver win_X4_goesOver hd_X4_goesOver ⟨Nat.le_of_ble_eq_true rfl, Nat.le_of_ble_eq_true rfl⟩ (Nat.le_of_ble_eq_true rfl) rfl rfl rfl ?_
      refine V_if_eq (pc := 46) (tgt := 56) X (th_da dtX4_links 26 rfl) (by decide) (fun c3 => ?_) (fun c3 => ?_)
      · rw [if_pos c3] at hf
        refine V_iconst (pc := 56) (v := 0) X (th_da dtX4_links 31 rfl) (by decide) ?_
        refine V_ior (pc := 57) X (th_da dtX4_links 32 rfl) ?_
        refine V_istore_n (pc := 58) (ls2 := [.ref 0, .int y1, .int y2, .int (y3 ||| 0), .int y4]) X (th_da dtX4_links 33 rfl) (Nat.le_of_ble_eq_true rfl) rfl rfl ?_
        refine V_iinc (pc := 59) (v := y4 + 1) (ls2 := [.ref 0, .int y1, .int y2, .int (y3 ||| 0), .int (y4 + 1)]) X (th_da dtX4_links 34 rfl) rfl rfl (Nat.le_of_ble_eq_true rfl) rfl rfl ?_
        refine V_goto (pc := 62) (tgt := 31) X (th_da dtX4_links 35 rfl) (by decide) ?_
        exact ih _ _ _ _ _ hf
      · rw [if_neg c3] at hf
        refine V_iconst (pc := 49) (v := 1) X (th_da dtX4_links 27 rfl) (by decide) ?_
        refine V_iload (pc := 50) X (th_da dtX4_links 28 rfl) rfl ?_
        refine V_ishl (pc := 52) X (th_da dtX4_links 29 rfl) ?_
        refine V_goto (pc := 53) (tgt := 57) X (th_da dtX4_links 30 rfl) (by decide) ?_
        refine V_ior (pc := 57) X (th_da dtX4_links 32 rfl) ?_
        refine V_istore_n (pc := 58) (ls2 := [.ref 0, .int y1, .int y2, .int (y3 ||| ((1 : Int32) <<< (y4 &&& 31))), .int y4]) X (th_da dtX4_links 33 rfl) (Nat.le_of_ble_eq_true rfl) rfl rfl ?_
        refine V_iinc (pc := 59) (v := y4 + 1) (ls2 := [.ref 0, .int y1, .int y2, .int (y3 ||| ((1 : Int32) <<< (y4 &&& 31))), .int (y4 + 1)]) X (th_da dtX4_links 34 rfl) rfl rfl (Nat.le_of_ble_eq_true rfl) rfl rfl ?_
        refine V_goto (pc := 62) (tgt := 31) X (th_da dtX4_links 35 rfl) (by decide) ?_
        exact ih _ _ _ _ _ hf
    · rw [if_neg c1] at hf
      refine V_iload_n (pc := 65) X (th_da dtX4_links 36 rfl) rfl ?_
      refine V_if_ne (pc := 66) (tgt := 80) X (th_da dtX4_links 37 rfl) (by decide) (fun c4 => ?_) (fun c4 => ?_)
      · rw [if_pos c4] at hf
        refine V_aload_n (pc := 69) X (th_da dtX4_links 38 rfl) rfl ?_
        refine V_getR (pc := 70) (j := 2) (t := 2) X (th_da dtX4_links 39 rfl) wfl_X4_15 iX4 rfl rfl (Nat.le_of_ble_eq_true rfl) rfl ?_
        refine V_iconst (pc := 73) (v := 3) X (th_da dtX4_links 40 rfl) (by decide) ?_
        refine V_iload_n (pc := 74) X (th_da dtX4_links 41 rfl) rfl ?_
        refine V_iadd (pc := 75) X (th_da dtX4_links 42 rfl) ?_
        obtain ⟨v5, e5, g5, hf⟩ := th_rd_some hf
        refine V_iald (pc := 76) X (th_da dtX4_links 43 rfl) rfl g5 e5 ?_
        refine V_goto (pc := 77) (tgt := 94) X (th_da dtX4_links 44 rfl) (by decide) ?_
        exact V_iretF (pc := 94) X (th_da dtX4_links 53 rfl) hf
      · rw [if_neg c4] at hf
        refine V_iload_n (pc := 80) X (th_da dtX4_links 45 rfl) rfl ?_
        refine V_iconst (pc := 81) (v := 1) X (th_da dtX4_links 46 rfl) (by decide) ?_
        refine V_icmp_ne (pc := 82) (tgt := 93) X (th_da dtX4_links 47 rfl) (by decide) (fun c6 => ?_) (fun c6 => ?_)
        · rw [if_pos c6] at hf
          refine V_aload_n (pc := 85) X (th_da dtX4_links 48 rfl) rfl ?_
          refine V_iload_n (pc := 86) X (th_da dtX4_links 49 rfl) rfl ?_
          obtain ⟨u7, h7, e7, hf⟩ := th_bd_some hf
          refine V_callVi (pc := 87) (q := 0) (As := [.int y1]) X (th_da dtX4_links 50 rfl) (mX4_bound l _ _ _ _ e7) wcd_X4_bound wml_X4_79 wim_X4_bound wse_X4_bound win_X4_bound hd_X4_bound ⟨Nat.le_of_ble_eq_true rfl, Nat.le_of_ble_eq_true rfl⟩ (Nat.le_of_ble_eq_true rfl) rfl rfl rfl ?_
          refine V_goto (pc := 90) (tgt := 94) X (th_da dtX4_links 51 rfl) (by decide) ?_
          exact V_iretF (pc := 94) X (th_da dtX4_links 53 rfl) hf
        · rw [if_neg c6] at hf
          refine V_iload_n (pc := 93) X (th_da dtX4_links 52 rfl) rfl ?_
          exact V_iretF (pc := 94) X (th_da dtX4_links 53 rfl) hf
set_option maxHeartbeats 4000000 in
set_option maxRecDepth 100000 in
theorem mX4_links (l : Launch) (x1 : Int32) (x2 : Int32) (h : th_H) (rr : Int32) (hh : th_H) (hf : fX4_links x1 x2 h = some (rr, hh)) : th_MI l LM yX4_links cX4_links 5 (some .int) 3 65 [.ref 0, .int x1, .int x2] h (some (.int rr)) hh := by
  refine th_MI_of (ls := [.ref 0, .int x1, .int x2, .null, .null]) RX4 rfl rfl rfl (Nat.le_of_ble_eq_true rfl) ?_
  intro p0 e s m args below meth c D cI cZ ad X
  unfold fX4_links at hf
  refine V_aload_n (pc := 0) X (th_da dtX4_links 0 rfl) rfl ?_
  refine V_iconst (pc := 1) (v := 0) X (th_da dtX4_links 1 rfl) (by decide) ?_
  obtain ⟨h1, e1, hf⟩ := th_st_some hf
  refine V_putI (pc := 2) (j := 0) (ty := .int) X (th_da dtX4_links 2 rfl) wfl_X4_55 iX4 rfl rfl (Nat.le_of_ble_eq_true rfl) rfl tyX4 tyX4_ok nmX4 rfl (tyX4_ok 0 (Nat.le_of_ble_eq_true rfl)) rfl rfl e1 ?_
  refine V_iload_n (pc := 5) X (th_da dtX4_links 3 rfl) rfl ?_
  obtain ⟨u2, h2, e2, hf⟩ := th_bd_some hf
  refine V_callSi (pc := 6) (As := [.int x1]) X (th_da dtX4_links 4 rfl) (mX4_isLink l _ _ _ _ e2) wcd_X4_isLink wml_X4_82 wst_X4_isLink win_X4_isLink hd_X4_isLink ⟨Nat.le_of_ble_eq_true rfl, Nat.le_of_ble_eq_true rfl⟩ (Nat.le_of_ble_eq_true rfl) rfl ?_
  refine V_if_eq (pc := 9) (tgt := 24) X (th_da dtX4_links 5 rfl) (by decide) (fun c3 => ?_) (fun c3 => ?_)
  · rw [if_pos c3] at hf
    refine V_iconst (pc := 24) (v := (-1)) X (th_da dtX4_links 12 rfl) (by decide) ?_
    exact V_iretF (pc := 25) X (th_da dtX4_links 13 rfl) hf
  · rw [if_neg c3] at hf
    refine V_iload_n (pc := 12) X (th_da dtX4_links 6 rfl) rfl ?_
    refine V_i2l (pc := 13) X (th_da dtX4_links 7 rfl) ?_
    refine V_lconst (pc := 14) (v := 0) X (th_da dtX4_links 8 rfl) (by decide) ?_
    refine V_ldc2 (pc := 15) (v := 2) X (th_da dtX4_links 9 rfl) wcl_X4_131 ?_
    obtain ⟨u4, h4, e4, hf⟩ := th_bd_some hf
    refine V_callSi (pc := 18) (As := [.long (Int32.toInt64 x2), .long 0, .long 2]) X (th_da dtX4_links 10 rfl) (mX4_in l _ _ _ _ _ _ e4) wcd_X4_in wml_X4_63 wst_X4_in win_X4_in hd_X4_in ⟨Nat.le_of_ble_eq_true rfl, Nat.le_of_ble_eq_true rfl⟩ (Nat.le_of_ble_eq_true rfl) rfl ?_
    refine V_if_ne (pc := 21) (tgt := 26) X (th_da dtX4_links 11 rfl) (by decide) (fun c5 => ?_) (fun c5 => ?_)
    · rw [if_pos c5] at hf
      refine V_iconst (pc := 24) (v := (-1)) X (th_da dtX4_links 12 rfl) (by decide) ?_
      exact V_iretF (pc := 25) X (th_da dtX4_links 13 rfl) hf
    · rw [if_neg c5] at hf
      refine V_iconst (pc := 26) (v := 0) X (th_da dtX4_links 14 rfl) (by decide) ?_
      refine V_istore_n (pc := 27) (ls2 := [.ref 0, .int x1, .int x2, .int 0, .null]) X (th_da dtX4_links 15 rfl) (Nat.le_of_ble_eq_true rfl) rfl rfl ?_
      refine V_iconst (pc := 28) (v := 0) X (th_da dtX4_links 16 rfl) (by decide) ?_
      refine V_istore (pc := 29) (ls2 := [.ref 0, .int x1, .int x2, .int 0, .int 0]) X (th_da dtX4_links 17 rfl) (Nat.le_of_ble_eq_true rfl) rfl rfl ?_
      exact tX4_links_c31 X _ _ _ _ _ _ hf
end
def fX4_isThere_c14 (z1 : Int32) (h : th_H) : Option (Int32 × th_H) :=
  th_st (th_up h 0 0 z1) fun h1 =>
  if ((h1.1 0 0) = 0 : Prop) then
    some (1, h1)
  else
    some (0, h1)
def fX4_isThere (x1 : Int32) (h : th_H) : Option (Int32 × th_H) :=
  th_bd (fX4_isFlow x1 h) fun u1 h1 =>
  if (u1 = 0 : Prop) then
    fX4_isThere_c14 1 h1
  else
    fX4_isThere_c14 0 h1
def tbX4_isThere : List (Nat × Instr × Nat) := [(0, .aload_n 0, 1), (1, .aload_n 0, 1), (2, .iload_n 1, 1), (3, .invokevirtual 125, 3), (6, .ifCond .eq 7, 3), (9, .iconst 0, 1), (10, .goto 4, 3), (13, .iconst 1, 1), (14, .putfield 55, 3), (17, .aload_n 0, 1), (18, .getfield 55, 3), (21, .ifCond .ne 7, 3), (24, .iconst 1, 1), (25, .goto 4, 3), (28, .iconst 0, 1), (29, .ireturn, 1)]
theorem dtX4_isThere : th_dec cX4_isThere tbX4_isThere = true := by decide +kernel
section
variable {p0 : Program} {l : Launch} {e : Env} {s : State} {m : MethodId} {args : Array Value} {below : List Frame} {meth : Method} {c : Code} {D : va_G} {cI cZ : ClassId} {ad : Nat → Nat} {rr : Int32} {hh : th_H}
set_option maxHeartbeats 4000000 in
set_option maxRecDepth 100000 in
theorem tX4_isThere_c14 (X : th_X p0 s m args meth c D cI cZ ad LM 2 RX4 cX4_isThere (some .boolean)) (z1 : Int32) (h : th_H) (hf : fX4_isThere_c14 z1 h = some (rr, hh)) : th_V p0 l e { frames := 2, cells := 0, slots := 0, locals := 46 } s m args below meth c D cI cZ ad LM 2 (some (.int rr)) hh 14 [.ref 0, .null] [.int z1, .ref 0] h := by
  unfold fX4_isThere_c14 at hf
  obtain ⟨h1, e1, hf⟩ := th_st_some hf
  refine V_putI (pc := 14) (j := 0) (ty := .int) X (th_da dtX4_isThere 8 rfl) wfl_X4_55 iX4 rfl rfl (Nat.le_of_ble_eq_true rfl) rfl tyX4 tyX4_ok nmX4 rfl (tyX4_ok 0 (Nat.le_of_ble_eq_true rfl)) rfl rfl e1 ?_
  refine V_aload_n (pc := 17) X (th_da dtX4_isThere 9 rfl) rfl ?_
  refine V_getI (pc := 18) (j := 0) X (th_da dtX4_isThere 10 rfl) wfl_X4_55 iX4 rfl rfl (Nat.le_of_ble_eq_true rfl) rfl ?_
  refine V_if_ne (pc := 21) (tgt := 28) X (th_da dtX4_isThere 11 rfl) (by decide) (fun c2 => ?_) (fun c2 => ?_)
  · rw [if_pos c2] at hf
    refine V_iconst (pc := 24) (v := 1) X (th_da dtX4_isThere 12 rfl) (by decide) ?_
    refine V_goto (pc := 25) (tgt := 29) X (th_da dtX4_isThere 13 rfl) (by decide) ?_
    exact V_zretF (pc := 29) X (th_da dtX4_isThere 15 rfl) (Or.inr rfl) hf
  · rw [if_neg c2] at hf
    refine V_iconst (pc := 28) (v := 0) X (th_da dtX4_isThere 14 rfl) (by decide) ?_
    exact V_zretF (pc := 29) X (th_da dtX4_isThere 15 rfl) (Or.inl rfl) hf
set_option maxHeartbeats 4000000 in
set_option maxRecDepth 100000 in
theorem mX4_isThere (l : Launch) (x1 : Int32) (h : th_H) (rr : Int32) (hh : th_H) (hf : fX4_isThere x1 h = some (rr, hh)) : th_MI l LM yX4_isThere cX4_isThere 2 (some .boolean) 2 46 [.ref 0, .int x1] h (some (.int rr)) hh := by
  refine th_MI_of (ls := [.ref 0, .int x1]) RX4 rfl rfl rfl (Nat.le_of_ble_eq_true rfl) ?_
  intro p0 e s m args below meth c D cI cZ ad X
  unfold fX4_isThere at hf
  refine V_aload_n (pc := 0) X (th_da dtX4_isThere 0 rfl) rfl ?_
  refine V_aload_n (pc := 1) X (th_da dtX4_isThere 1 rfl) rfl ?_
  refine V_iload_n (pc := 2) X (th_da dtX4_isThere 2 rfl) rfl ?_
  obtain ⟨u1, h1, e1, hf⟩ := th_bd_some hf
  refine V_callVi (pc := 3) (q := 0) (As := [.int x1]) X (th_da dtX4_isThere 3 rfl) (mX4_isFlow l _ _ _ _ e1) wcd_X4_isFlow wml_X4_125 wim_X4_isFlow wse_X4_isFlow win_X4_isFlow hd_X4_isFlow ⟨Nat.le_of_ble_eq_true rfl, Nat.le_of_ble_eq_true rfl⟩ (Nat.le_of_ble_eq_true rfl) rfl rfl rfl ?_
  refine V_if_eq (pc := 6) (tgt := 13) X (th_da dtX4_isThere 4 rfl) (by decide) (fun c2 => ?_) (fun c2 => ?_)
  · rw [if_pos c2] at hf
    refine V_iconst (pc := 13) (v := 1) X (th_da dtX4_isThere 7 rfl) (by decide) ?_
    refine V_mask [true, false] (ls2 := [.ref 0, .null]) rfl ?_
    exact tX4_isThere_c14 X _ _ hf
  · rw [if_neg c2] at hf
    refine V_iconst (pc := 9) (v := 0) X (th_da dtX4_isThere 5 rfl) (by decide) ?_
    refine V_goto (pc := 10) (tgt := 14) X (th_da dtX4_isThere 6 rfl) (by decide) ?_
    refine V_mask [true, false] (ls2 := [.ref 0, .null]) rfl ?_
    exact tX4_isThere_c14 X _ _ hf
end
def fX4_flow (x1 : Int32) (x2 : Int32) (h : th_H) : Option (Int32 × th_H) :=
  th_bd (fX4_isThere x1 h) fun u1 h1 =>
  if (u1 = 0 : Prop) then
    some (0, h1)
  else
    th_bd (fX4_at x1 h1) fun u3 h3 =>
    if x2 = 5 then
      th_bd (fX4_own x1 h3) fun u5 h5 =>
      some (u5, h5)
    else
    if x2 = 6 then
      th_rd h3 2 643 (u3 + 6) fun v7 =>
      some (v7, h3)
    else
    if x2 = 7 then
      th_rd h3 2 643 (u3 + 7) fun v9 =>
      some (v9, h3)
    else
    if x2 = 8 then
      th_rd h3 2 643 (u3 + 7) fun v11 =>
      th_bd (fX4_rate x1 v11 h3) fun u12 h12 =>
      some (u12, h12)
    else
    th_bd (fX4_in (Int32.toInt64 x2) 0 4 h3) fun u13 h13 =>
    if (u13 = 0 : Prop) then
      some ((-1), h13)
    else
      th_rd h13 2 643 ((u3 + 1) + x2) fun v15 =>
      some (v15, h13)
def tbX4_flow : List (Nat × Instr × Nat) := [(0, .aload_n 0, 1), (1, .iload_n 1, 1), (2, .invokevirtual 202, 3), (5, .ifCond .ne 5, 3), (8, .iconst 0, 1), (9, .ireturn, 1), (10, .iload_n 1, 1), (11, .invokestatic 71, 3), (14, .istore_n 3, 1), (15, .iload_n 2, 1), (16, .tableswitch 73 5 8 #[32, 38, 48, 58], 32), (48, .aload_n 0, 1), (49, .iload_n 1, 1), (50, .invokevirtual 162, 3), (53, .ireturn, 1), (54, .aload_n 0, 1), (55, .getfield 15, 3), (58, .iload_n 3, 1), (59, .bipush 6, 2), (61, .iadd, 1), (62, .iaload, 1), (63, .ireturn, 1), (64, .aload_n 0, 1), (65, .getfield 15, 3), (68, .iload_n 3, 1), (69, .bipush 7, 2), (71, .iadd, 1), (72, .iaload, 1), (73, .ireturn, 1), (74, .aload_n 0, 1), (75, .iload_n 1, 1), (76, .aload_n 0, 1), (77, .getfield 15, 3), (80, .iload_n 3, 1), (81, .bipush 7, 2), (83, .iadd, 1), (84, .iaload, 1), (85, .invokevirtual 151, 3), (88, .ireturn, 1), (89, .iload_n 2, 1), (90, .i2l, 1), (91, .lconst 0, 1), (92, .ldc2_w 205, 3), (95, .invokestatic 63, 3), (98, .ifCond .eq 16, 3), (101, .aload_n 0, 1), (102, .getfield 15, 3), (105, .iload_n 3, 1), (106, .iconst 1, 1), (107, .iadd, 1), (108, .iload_n 2, 1), (109, .iadd, 1), (110, .iaload, 1), (111, .goto 4, 3), (114, .iconst (-1), 1), (115, .ireturn, 1)]
theorem dtX4_flow : th_dec cX4_flow tbX4_flow = true := by decide +kernel
section
variable {p0 : Program} {l : Launch} {e : Env} {s : State} {m : MethodId} {args : Array Value} {below : List Frame} {meth : Method} {c : Code} {D : va_G} {cI cZ : ClassId} {ad : Nat → Nat} {rr : Int32} {hh : th_H}
set_option maxHeartbeats 4000000 in
set_option maxRecDepth 100000 in
theorem mX4_flow (l : Launch) (x1 : Int32) (x2 : Int32) (h : th_H) (rr : Int32) (hh : th_H) (hf : fX4_flow x1 x2 h = some (rr, hh)) : th_MI l LM yX4_flow cX4_flow 4 (some .int) 3 67 [.ref 0, .int x1, .int x2] h (some (.int rr)) hh := by
  refine th_MI_of (ls := [.ref 0, .int x1, .int x2, .null]) RX4 rfl rfl rfl (Nat.le_of_ble_eq_true rfl) ?_
  intro p0 e s m args below meth c D cI cZ ad X
  unfold fX4_flow at hf
  refine V_aload_n (pc := 0) X (th_da dtX4_flow 0 rfl) rfl ?_
  refine V_iload_n (pc := 1) X (th_da dtX4_flow 1 rfl) rfl ?_
  obtain ⟨u1, h1, e1, hf⟩ := th_bd_some hf
  refine V_callVi (pc := 2) (q := 0) (As := [.int x1]) X (th_da dtX4_flow 2 rfl) (mX4_isThere l _ _ _ _ e1) wcd_X4_isThere wml_X4_202 wim_X4_isThere wse_X4_isThere win_X4_isThere hd_X4_isThere ⟨Nat.le_of_ble_eq_true rfl, Nat.le_of_ble_eq_true rfl⟩ (Nat.le_of_ble_eq_true rfl) rfl rfl rfl ?_
  refine V_if_ne (pc := 5) (tgt := 10) X (th_da dtX4_flow 3 rfl) (by decide) (fun c2 => ?_) (fun c2 => ?_)
  · rw [if_pos c2] at hf
    refine V_iconst (pc := 8) (v := 0) X (th_da dtX4_flow 4 rfl) (by decide) ?_
    exact V_iretF (pc := 9) X (th_da dtX4_flow 5 rfl) hf
  · rw [if_neg c2] at hf
    refine V_iload_n (pc := 10) X (th_da dtX4_flow 6 rfl) rfl ?_
    obtain ⟨u3, h3, e3, hf⟩ := th_bd_some hf
    refine V_callSi (pc := 11) (As := [.int x1]) X (th_da dtX4_flow 7 rfl) (mX4_at l _ _ _ _ e3) wcd_X4_at wml_X4_71 wst_X4_at win_X4_at hd_X4_at ⟨Nat.le_of_ble_eq_true rfl, Nat.le_of_ble_eq_true rfl⟩ (Nat.le_of_ble_eq_true rfl) rfl ?_
    refine V_istore_n (pc := 14) (ls2 := [.ref 0, .int x1, .int x2, .int u3]) X (th_da dtX4_flow 8 rfl) (Nat.le_of_ble_eq_true rfl) rfl rfl ?_
    refine V_iload_n (pc := 15) X (th_da dtX4_flow 9 rfl) rfl ?_
    by_cases c4 : x2 = 5
    · rw [if_pos c4] at hf
      refine V_tabIn (pc := 16) (tgt := 48) X (th_da dtX4_flow 10 rfl) c4 (by decide) (by decide) rfl (by decide) ?_
      refine V_aload_n (pc := 48) X (th_da dtX4_flow 11 rfl) rfl ?_
      refine V_iload_n (pc := 49) X (th_da dtX4_flow 12 rfl) rfl ?_
      obtain ⟨u5, h5, e5, hf⟩ := th_bd_some hf
      refine V_callVi (pc := 50) (q := 0) (As := [.int x1]) X (th_da dtX4_flow 13 rfl) (mX4_own l _ _ _ _ e5) wcd_X4_own wml_X4_162 wim_X4_own wse_X4_own win_X4_own hd_X4_own ⟨Nat.le_of_ble_eq_true rfl, Nat.le_of_ble_eq_true rfl⟩ (Nat.le_of_ble_eq_true rfl) rfl rfl rfl ?_
      exact V_iretF (pc := 53) X (th_da dtX4_flow 14 rfl) hf
    · rw [if_neg c4] at hf
      by_cases c6 : x2 = 6
      · rw [if_pos c6] at hf
        refine V_tabIn (pc := 16) (tgt := 54) X (th_da dtX4_flow 10 rfl) c6 (by decide) (by decide) rfl (by decide) ?_
        refine V_aload_n (pc := 54) X (th_da dtX4_flow 15 rfl) rfl ?_
        refine V_getR (pc := 55) (j := 2) (t := 2) X (th_da dtX4_flow 16 rfl) wfl_X4_15 iX4 rfl rfl (Nat.le_of_ble_eq_true rfl) rfl ?_
        refine V_iload_n (pc := 58) X (th_da dtX4_flow 17 rfl) rfl ?_
        refine V_bipush (pc := 59) (v := 6) X (th_da dtX4_flow 18 rfl) (by decide) ?_
        refine V_iadd (pc := 61) X (th_da dtX4_flow 19 rfl) ?_
        obtain ⟨v7, e7, g7, hf⟩ := th_rd_some hf
        refine V_iald (pc := 62) X (th_da dtX4_flow 20 rfl) rfl g7 e7 ?_
        exact V_iretF (pc := 63) X (th_da dtX4_flow 21 rfl) hf
      · rw [if_neg c6] at hf
        by_cases c8 : x2 = 7
        · rw [if_pos c8] at hf
          refine V_tabIn (pc := 16) (tgt := 64) X (th_da dtX4_flow 10 rfl) c8 (by decide) (by decide) rfl (by decide) ?_
          refine V_aload_n (pc := 64) X (th_da dtX4_flow 22 rfl) rfl ?_
          refine V_getR (pc := 65) (j := 2) (t := 2) X (th_da dtX4_flow 23 rfl) wfl_X4_15 iX4 rfl rfl (Nat.le_of_ble_eq_true rfl) rfl ?_
          refine V_iload_n (pc := 68) X (th_da dtX4_flow 24 rfl) rfl ?_
          refine V_bipush (pc := 69) (v := 7) X (th_da dtX4_flow 25 rfl) (by decide) ?_
          refine V_iadd (pc := 71) X (th_da dtX4_flow 26 rfl) ?_
          obtain ⟨v9, e9, g9, hf⟩ := th_rd_some hf
          refine V_iald (pc := 72) X (th_da dtX4_flow 27 rfl) rfl g9 e9 ?_
          exact V_iretF (pc := 73) X (th_da dtX4_flow 28 rfl) hf
        · rw [if_neg c8] at hf
          by_cases c10 : x2 = 8
          · rw [if_pos c10] at hf
            refine V_tabIn (pc := 16) (tgt := 74) X (th_da dtX4_flow 10 rfl) c10 (by decide) (by decide) rfl (by decide) ?_
            refine V_aload_n (pc := 74) X (th_da dtX4_flow 29 rfl) rfl ?_
            refine V_iload_n (pc := 75) X (th_da dtX4_flow 30 rfl) rfl ?_
            refine V_aload_n (pc := 76) X (th_da dtX4_flow 31 rfl) rfl ?_
            refine V_getR (pc := 77) (j := 2) (t := 2) X (th_da dtX4_flow 32 rfl) wfl_X4_15 iX4 rfl rfl (Nat.le_of_ble_eq_true rfl) rfl ?_
            refine V_iload_n (pc := 80) X (th_da dtX4_flow 33 rfl) rfl ?_
            refine V_bipush (pc := 81) (v := 7) X (th_da dtX4_flow 34 rfl) (by decide) ?_
            refine V_iadd (pc := 83) X (th_da dtX4_flow 35 rfl) ?_
            obtain ⟨v11, e11, g11, hf⟩ := th_rd_some hf
            refine V_iald (pc := 84) X (th_da dtX4_flow 36 rfl) rfl g11 e11 ?_
            obtain ⟨u12, h12, e12, hf⟩ := th_bd_some hf
            refine V_callVi (pc := 85) (q := 0) (As := [.int x1, .int v11]) X (th_da dtX4_flow 37 rfl) (mX4_rate l _ _ _ _ _ e12) wcd_X4_rate wml_X4_151 wim_X4_rate wse_X4_rate win_X4_rate hd_X4_rate ⟨Nat.le_of_ble_eq_true rfl, Nat.le_of_ble_eq_true rfl⟩ (Nat.le_of_ble_eq_true rfl) rfl rfl rfl ?_
            exact V_iretF (pc := 88) X (th_da dtX4_flow 38 rfl) hf
          · rw [if_neg c10] at hf
            have n4 := lv_neT c4 (show (5 : Int32).toInt = 5 from rfl)
            have n6 := lv_neT c6 (show (6 : Int32).toInt = 6 from rfl)
            have n8 := lv_neT c8 (show (7 : Int32).toInt = 7 from rfl)
            have n10 := lv_neT c10 (show (8 : Int32).toInt = 8 from rfl)
            refine V_tabOut (pc := 16) (tgt := 89) X (th_da dtX4_flow 10 rfl) (by omega) (by decide) ?_
            refine V_iload_n (pc := 89) X (th_da dtX4_flow 39 rfl) rfl ?_
            refine V_i2l (pc := 90) X (th_da dtX4_flow 40 rfl) ?_
            refine V_lconst (pc := 91) (v := 0) X (th_da dtX4_flow 41 rfl) (by decide) ?_
            refine V_ldc2 (pc := 92) (v := 4) X (th_da dtX4_flow 42 rfl) wcl_X4_205 ?_
            obtain ⟨u13, h13, e13, hf⟩ := th_bd_some hf
            refine V_callSi (pc := 95) (As := [.long (Int32.toInt64 x2), .long 0, .long 4]) X (th_da dtX4_flow 43 rfl) (mX4_in l _ _ _ _ _ _ e13) wcd_X4_in wml_X4_63 wst_X4_in win_X4_in hd_X4_in ⟨Nat.le_of_ble_eq_true rfl, Nat.le_of_ble_eq_true rfl⟩ (Nat.le_of_ble_eq_true rfl) rfl ?_
            refine V_if_eq (pc := 98) (tgt := 114) X (th_da dtX4_flow 44 rfl) (by decide) (fun c14 => ?_) (fun c14 => ?_)
            · rw [if_pos c14] at hf
              refine V_iconst (pc := 114) (v := (-1)) X (th_da dtX4_flow 54 rfl) (by decide) ?_
              exact V_iretF (pc := 115) X (th_da dtX4_flow 55 rfl) hf
            · rw [if_neg c14] at hf
              refine V_aload_n (pc := 101) X (th_da dtX4_flow 45 rfl) rfl ?_
              refine V_getR (pc := 102) (j := 2) (t := 2) X (th_da dtX4_flow 46 rfl) wfl_X4_15 iX4 rfl rfl (Nat.le_of_ble_eq_true rfl) rfl ?_
              refine V_iload_n (pc := 105) X (th_da dtX4_flow 47 rfl) rfl ?_
              refine V_iconst (pc := 106) (v := 1) X (th_da dtX4_flow 48 rfl) (by decide) ?_
              refine V_iadd (pc := 107) X (th_da dtX4_flow 49 rfl) ?_
              refine V_iload_n (pc := 108) X (th_da dtX4_flow 50 rfl) rfl ?_
              refine V_iadd (pc := 109) X (th_da dtX4_flow 51 rfl) ?_
              obtain ⟨v15, e15, g15, hf⟩ := th_rd_some hf
              refine V_iald (pc := 110) X (th_da dtX4_flow 52 rfl) rfl g15 e15 ?_
              refine V_goto (pc := 111) (tgt := 115) X (th_da dtX4_flow 53 rfl) (by decide) ?_
              exact V_iretF (pc := 115) X (th_da dtX4_flow 55 rfl) hf
end
def fX4_named (x1 : Int32) (h : th_H) : Option (Int32 × th_H) :=
  th_st (th_up h 0 0 0) fun h1 =>
  th_bd (fX4_namedBy x1 h1) fun u2 h2 =>
  some (u2, h2)
def tbX4_named : List (Nat × Instr × Nat) := [(0, .aload_n 0, 1), (1, .iconst 0, 1), (2, .putfield 55, 3), (5, .aload_n 0, 1), (6, .iload_n 1, 1), (7, .invokevirtual 118, 3), (10, .ireturn, 1)]
theorem dtX4_named : th_dec cX4_named tbX4_named = true := by decide +kernel
section
variable {p0 : Program} {l : Launch} {e : Env} {s : State} {m : MethodId} {args : Array Value} {below : List Frame} {meth : Method} {c : Code} {D : va_G} {cI cZ : ClassId} {ad : Nat → Nat} {rr : Int32} {hh : th_H}
set_option maxHeartbeats 4000000 in
set_option maxRecDepth 100000 in
theorem mX4_named (l : Launch) (x1 : Int32) (h : th_H) (rr : Int32) (hh : th_H) (hf : fX4_named x1 h = some (rr, hh)) : th_MI l LM yX4_named cX4_named 2 (some .int) 2 43 [.ref 0, .int x1] h (some (.int rr)) hh := by
  refine th_MI_of (ls := [.ref 0, .int x1]) RX4 rfl rfl rfl (Nat.le_of_ble_eq_true rfl) ?_
  intro p0 e s m args below meth c D cI cZ ad X
  unfold fX4_named at hf
  refine V_aload_n (pc := 0) X (th_da dtX4_named 0 rfl) rfl ?_
  refine V_iconst (pc := 1) (v := 0) X (th_da dtX4_named 1 rfl) (by decide) ?_
  obtain ⟨h1, e1, hf⟩ := th_st_some hf
  refine V_putI (pc := 2) (j := 0) (ty := .int) X (th_da dtX4_named 2 rfl) wfl_X4_55 iX4 rfl rfl (Nat.le_of_ble_eq_true rfl) rfl tyX4 tyX4_ok nmX4 rfl (tyX4_ok 0 (Nat.le_of_ble_eq_true rfl)) rfl rfl e1 ?_
  refine V_aload_n (pc := 5) X (th_da dtX4_named 3 rfl) rfl ?_
  refine V_iload_n (pc := 6) X (th_da dtX4_named 4 rfl) rfl ?_
  obtain ⟨u2, h2, e2, hf⟩ := th_bd_some hf
  refine V_callVi (pc := 7) (q := 0) (As := [.int x1]) X (th_da dtX4_named 5 rfl) (mX4_namedBy l _ _ _ _ e2) wcd_X4_namedBy wml_X4_118 wim_X4_namedBy wse_X4_namedBy win_X4_namedBy hd_X4_namedBy ⟨Nat.le_of_ble_eq_true rfl, Nat.le_of_ble_eq_true rfl⟩ (Nat.le_of_ble_eq_true rfl) rfl rfl rfl ?_
  exact V_iretF (pc := 10) X (th_da dtX4_named 6 rfl) hf
end
def fX4_fair (x1 : Int32) (x2 : Int32) (h : th_H) : Option (Int32 × th_H) :=
  th_bd (fX4_isThere x1 h) fun u1 h1 =>
  if (u1 = 0 : Prop) then
    some (0, h1)
  else
    th_bd (fX4_layFair h1) fun _u3 h3 =>
    if x2 = 0 then
      th_bd (fX4_fairRate x1 h3) fun u5 h5 =>
      some (u5, h5)
    else
    if x2 = 1 then
      th_rd h3 7 20 x1 fun v7 =>
      some (v7, h3)
    else
    if x2 = 2 then
      th_rd h3 8 20 x1 fun v9 =>
      some (v9, h3)
    else
    if x2 = 3 then
      th_rd h3 9 20 x1 fun v11 =>
      some (v11, h3)
    else
    some ((-1), h3)
def tbX4_fair : List (Nat × Instr × Nat) := [(0, .aload_n 0, 1), (1, .iload_n 1, 1), (2, .invokevirtual 202, 3), (5, .ifCond .ne 5, 3), (8, .iconst 0, 1), (9, .ireturn, 1), (10, .aload_n 0, 1), (11, .invokevirtual 207, 3), (14, .iload_n 2, 1), (15, .tableswitch 56 0 3 #[29, 35, 42, 49], 29), (44, .aload_n 0, 1), (45, .iload_n 1, 1), (46, .invokevirtual 199, 3), (49, .ireturn, 1), (50, .aload_n 0, 1), (51, .getfield 31, 3), (54, .iload_n 1, 1), (55, .iaload, 1), (56, .ireturn, 1), (57, .aload_n 0, 1), (58, .getfield 34, 3), (61, .iload_n 1, 1), (62, .iaload, 1), (63, .ireturn, 1), (64, .aload_n 0, 1), (65, .getfield 37, 3), (68, .iload_n 1, 1), (69, .iaload, 1), (70, .ireturn, 1), (71, .iconst (-1), 1), (72, .ireturn, 1)]
theorem dtX4_fair : th_dec cX4_fair tbX4_fair = true := by decide +kernel
section
variable {p0 : Program} {l : Launch} {e : Env} {s : State} {m : MethodId} {args : Array Value} {below : List Frame} {meth : Method} {c : Code} {D : va_G} {cI cZ : ClassId} {ad : Nat → Nat} {rr : Int32} {hh : th_H}
set_option maxHeartbeats 4000000 in
set_option maxRecDepth 100000 in
theorem mX4_fair (l : Launch) (x1 : Int32) (x2 : Int32) (h : th_H) (rr : Int32) (hh : th_H) (hf : fX4_fair x1 x2 h = some (rr, hh)) : th_MI l LM yX4_fair cX4_fair 3 (some .int) 5 115 [.ref 0, .int x1, .int x2] h (some (.int rr)) hh := by
  refine th_MI_of (ls := [.ref 0, .int x1, .int x2]) RX4 rfl rfl rfl (Nat.le_of_ble_eq_true rfl) ?_
  intro p0 e s m args below meth c D cI cZ ad X
  unfold fX4_fair at hf
  refine V_aload_n (pc := 0) X (th_da dtX4_fair 0 rfl) rfl ?_
  refine V_iload_n (pc := 1) X (th_da dtX4_fair 1 rfl) rfl ?_
  obtain ⟨u1, h1, e1, hf⟩ := th_bd_some hf
  refine V_callVi (pc := 2) (q := 0) (As := [.int x1]) X (th_da dtX4_fair 2 rfl) (mX4_isThere l _ _ _ _ e1) wcd_X4_isThere wml_X4_202 wim_X4_isThere wse_X4_isThere win_X4_isThere hd_X4_isThere ⟨Nat.le_of_ble_eq_true rfl, Nat.le_of_ble_eq_true rfl⟩ (Nat.le_of_ble_eq_true rfl) rfl rfl rfl ?_
  refine V_if_ne (pc := 5) (tgt := 10) X (th_da dtX4_fair 3 rfl) (by decide) (fun c2 => ?_) (fun c2 => ?_)
  · rw [if_pos c2] at hf
    refine V_iconst (pc := 8) (v := 0) X (th_da dtX4_fair 4 rfl) (by decide) ?_
    exact V_iretF (pc := 9) X (th_da dtX4_fair 5 rfl) hf
  · rw [if_neg c2] at hf
    refine V_aload_n (pc := 10) X (th_da dtX4_fair 6 rfl) rfl ?_
    obtain ⟨u3, h3, e3, hf⟩ := th_bd_some hf
    refine V_callVv (pc := 11) (q := 0) (As := []) X (th_da dtX4_fair 7 rfl) (mX4_layFair l _ _ _ e3) wcd_X4_layFair wml_X4_207 wim_X4_layFair wse_X4_layFair win_X4_layFair hd_X4_layFair ⟨Nat.le_of_ble_eq_true rfl, Nat.le_of_ble_eq_true rfl⟩ (Nat.le_of_ble_eq_true rfl) rfl rfl rfl ?_
    refine V_iload_n (pc := 14) X (th_da dtX4_fair 8 rfl) rfl ?_
    by_cases c4 : x2 = 0
    · rw [if_pos c4] at hf
      refine V_tabIn (pc := 15) (tgt := 44) X (th_da dtX4_fair 9 rfl) c4 (by decide) (by decide) rfl (by decide) ?_
      refine V_aload_n (pc := 44) X (th_da dtX4_fair 10 rfl) rfl ?_
      refine V_iload_n (pc := 45) X (th_da dtX4_fair 11 rfl) rfl ?_
      obtain ⟨u5, h5, e5, hf⟩ := th_bd_some hf
      refine V_callVi (pc := 46) (q := 0) (As := [.int x1]) X (th_da dtX4_fair 12 rfl) (mX4_fairRate l _ _ _ _ e5) wcd_X4_fairRate wml_X4_199 wim_X4_fairRate wse_X4_fairRate win_X4_fairRate hd_X4_fairRate ⟨Nat.le_of_ble_eq_true rfl, Nat.le_of_ble_eq_true rfl⟩ (Nat.le_of_ble_eq_true rfl) rfl rfl rfl ?_
      exact V_iretF (pc := 49) X (th_da dtX4_fair 13 rfl) hf
    · rw [if_neg c4] at hf
      by_cases c6 : x2 = 1
      · rw [if_pos c6] at hf
        refine V_tabIn (pc := 15) (tgt := 50) X (th_da dtX4_fair 9 rfl) c6 (by decide) (by decide) rfl (by decide) ?_
        refine V_aload_n (pc := 50) X (th_da dtX4_fair 14 rfl) rfl ?_
        refine V_getR (pc := 51) (j := 7) (t := 7) X (th_da dtX4_fair 15 rfl) wfl_X4_31 iX4 rfl rfl (Nat.le_of_ble_eq_true rfl) rfl ?_
        refine V_iload_n (pc := 54) X (th_da dtX4_fair 16 rfl) rfl ?_
        obtain ⟨v7, e7, g7, hf⟩ := th_rd_some hf
        refine V_iald (pc := 55) X (th_da dtX4_fair 17 rfl) rfl g7 e7 ?_
        exact V_iretF (pc := 56) X (th_da dtX4_fair 18 rfl) hf
      · rw [if_neg c6] at hf
        by_cases c8 : x2 = 2
        · rw [if_pos c8] at hf
          refine V_tabIn (pc := 15) (tgt := 57) X (th_da dtX4_fair 9 rfl) c8 (by decide) (by decide) rfl (by decide) ?_
          refine V_aload_n (pc := 57) X (th_da dtX4_fair 19 rfl) rfl ?_
          refine V_getR (pc := 58) (j := 8) (t := 8) X (th_da dtX4_fair 20 rfl) wfl_X4_34 iX4 rfl rfl (Nat.le_of_ble_eq_true rfl) rfl ?_
          refine V_iload_n (pc := 61) X (th_da dtX4_fair 21 rfl) rfl ?_
          obtain ⟨v9, e9, g9, hf⟩ := th_rd_some hf
          refine V_iald (pc := 62) X (th_da dtX4_fair 22 rfl) rfl g9 e9 ?_
          exact V_iretF (pc := 63) X (th_da dtX4_fair 23 rfl) hf
        · rw [if_neg c8] at hf
          by_cases c10 : x2 = 3
          · rw [if_pos c10] at hf
            refine V_tabIn (pc := 15) (tgt := 64) X (th_da dtX4_fair 9 rfl) c10 (by decide) (by decide) rfl (by decide) ?_
            refine V_aload_n (pc := 64) X (th_da dtX4_fair 24 rfl) rfl ?_
            refine V_getR (pc := 65) (j := 9) (t := 9) X (th_da dtX4_fair 25 rfl) wfl_X4_37 iX4 rfl rfl (Nat.le_of_ble_eq_true rfl) rfl ?_
            refine V_iload_n (pc := 68) X (th_da dtX4_fair 26 rfl) rfl ?_
            obtain ⟨v11, e11, g11, hf⟩ := th_rd_some hf
            refine V_iald (pc := 69) X (th_da dtX4_fair 27 rfl) rfl g11 e11 ?_
            exact V_iretF (pc := 70) X (th_da dtX4_fair 28 rfl) hf
          · rw [if_neg c10] at hf
            have n4 := lv_neT c4 (show (0 : Int32).toInt = 0 from rfl)
            have n6 := lv_neT c6 (show (1 : Int32).toInt = 1 from rfl)
            have n8 := lv_neT c8 (show (2 : Int32).toInt = 2 from rfl)
            have n10 := lv_neT c10 (show (3 : Int32).toInt = 3 from rfl)
            refine V_tabOut (pc := 15) (tgt := 71) X (th_da dtX4_fair 9 rfl) (by omega) (by decide) ?_
            refine V_iconst (pc := 71) (v := (-1)) X (th_da dtX4_fair 29 rfl) (by decide) ?_
            exact V_iretF (pc := 72) X (th_da dtX4_fair 30 rfl) hf
end
