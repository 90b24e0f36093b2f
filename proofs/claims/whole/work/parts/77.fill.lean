/-! ===== Arrays.fill over a single row ===== -/
def LF : th_L := [.inl (200, false)]
section
variable {p0 : Program} {l : Launch} {e : Env} {s : State} {m : MethodId} {args : Array Value} {below : List Frame} {meth : Method} {c : Code} {D : va_G} {cI cZ : ClassId} {ad : Nat → Nat} {rr : Unit} {hh : th_H}
set_option maxHeartbeats 4000000 in
set_option maxRecDepth 100000 in
theorem uJ7_fill_53178_c5 (X : th_X p0 s m args meth c D cI cZ ad LF 4 RJ7 cJ7_fill_53178 none) (a : Nat) (na : Nat) (ha : LF[a]? = some (.inl (na, false))) : ∀ (n : Nat) (y1 : Int32) (y2 : Int32) (y3 : Int32) (h : th_H), fJ7_fill_53178_c5 a na n y1 y2 y3 h = some (rr, hh) → th_V p0 l e { frames := 0, cells := 0, slots := 0, locals := 0 } s m args below meth c D cI cZ ad LF 4 none hh 5 [.ref a, .int y1, .int y2, .int y3] [] h := by
  intro n
  induction n with
  | zero => intro y1 y2 y3 h hf; cases hf
  | succ n ih =>
    intro y1 y2 y3 h hf
    rw [fJ7_fill_53178_c5] at hf
    refine V_iload_n (pc := 5) X (th_da dtJ7_fill_53178 5 rfl) rfl ?_
    refine V_iload_n (pc := 6) X (th_da dtJ7_fill_53178 6 rfl) rfl ?_
    refine V_icmp_ge (pc := 7) (tgt := 20) X (th_da dtJ7_fill_53178 7 rfl) (by decide) (fun c1 => ?_) (fun c1 => ?_)
    · rw [if_pos c1] at hf
      refine V_aload_n (pc := 10) X (th_da dtJ7_fill_53178 8 rfl) rfl ?_
      refine V_iload_n (pc := 11) X (th_da dtJ7_fill_53178 9 rfl) rfl ?_
      refine V_iload_n (pc := 12) X (th_da dtJ7_fill_53178 10 rfl) rfl ?_
      obtain ⟨h2, e2, g2, hf⟩ := th_wr_some hf
      refine V_iast (pc := 13) X (th_da dtJ7_fill_53178 11 rfl) ha g2 e2 ?_
      refine V_iinc (pc := 14) (v := y2 + 1) (ls2 := [.ref a, .int y1, .int (y2 + 1), .int y3]) X (th_da dtJ7_fill_53178 12 rfl) rfl rfl (Nat.le_of_ble_eq_true rfl) rfl rfl ?_
      refine V_goto (pc := 17) (tgt := 5) X (th_da dtJ7_fill_53178 13 rfl) (by decide) ?_
      exact ih _ _ _ _ hf
    · rw [if_neg c1] at hf
      exact V_vretF (pc := 20) X (th_da dtJ7_fill_53178 14 rfl) hf
set_option maxHeartbeats 4000000 in
set_option maxRecDepth 100000 in
theorem nJ7_fill_53178 (l : Launch) (a : Nat) (na : Nat) (ha : LF[a]? = some (.inl (na, false))) (x1 : Int32) (h : th_H) (rr : Unit) (hh : th_H) (hf : fJ7_fill_53178 a na x1 h = some (rr, hh)) : th_MI l LF yJ7_fill_53178 cJ7_fill_53178 4 none 0 0 [.ref a, .int x1] h none hh := by
  refine th_MI_of (ls := [.ref a, .int x1, .null, .null]) RJ7 rfl rfl rfl (Nat.le_of_ble_eq_true rfl) ?_
  intro p0 e s m args below meth c D cI cZ ad X
  unfold fJ7_fill_53178 at hf
  refine V_iconst (pc := 0) (v := 0) X (th_da dtJ7_fill_53178 0 rfl) (by decide) ?_
  refine V_istore_n (pc := 1) (ls2 := [.ref a, .int x1, .int 0, .null]) X (th_da dtJ7_fill_53178 1 rfl) (Nat.le_of_ble_eq_true rfl) rfl rfl ?_
  refine V_aload_n (pc := 2) X (th_da dtJ7_fill_53178 2 rfl) rfl ?_
  refine V_alen (pc := 3) (v := (Int32.ofNat na)) X (th_da dtJ7_fill_53178 3 rfl) ha rfl ?_
  refine V_istore_n (pc := 4) (ls2 := [.ref a, .int x1, .int 0, .int (Int32.ofNat na)]) X (th_da dtJ7_fill_53178 4 rfl) (Nat.le_of_ble_eq_true rfl) rfl rfl ?_
  exact uJ7_fill_53178_c5 X _ _ ha _ _ _ _ _ hf
end
