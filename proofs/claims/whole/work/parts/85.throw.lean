/-! ===== flow, fair, proof of the class, where the number is no flow ===== -/
theorem ex_w1 : Cond.classLink RX3 165 xn_N ∈ th_T := th_in4 45 (by decide +kernel) rfl
theorem ex_w2 : Cond.initialized xn_N ∈ th_T := th_in1 13 (by decide +kernel) rfl
def ex_tb : List (Nat × Instr × Nat) := [(0, .aload_n 0, 1), (1, .getfield 20, 3), (4, .iload_n 1, 1), (5, .invokevirtual 80, 3), (8, .ifCond .ne 13, 3), (11, .new 165, 3), (14, .dup, 1), (15, .ldc 167, 2), (17, .invokespecial 169, 3), (20, .athrow, 1)]
set_option maxHeartbeats 4000000 in
set_option maxRecDepth 100000 in
/-- flow, fair and proof of a number that is no flow: the throw -/
theorem ex_thr {y : MethodName} {cc : ByteArray} {maxL : Nat} (hy : plainName y.cls = true) (ho : y.cls = RX3) (dt : th_dec cc ex_tb = true) (hfit : 3 ≤ maxL) (l : Launch) (hl : l.stackTraces = false) (D : va_G) (cI cZ : ClassId) (ad : Nat → Nat) (sz sa : Nat) (x1 x2 : Int32) (h : th_H) (hf : fX0_has 2 x1 h = some (0, h)) :
    vx_Met l y (Cond.code y cc maxL (some .int) :: th_T) { frames := 6, cells := 1, slots := 6, locals := 82 } (fun v U => th_PC D cI cZ ad LC sz h [.ref 0, .int x1, .int x2] v U ∧ ex_E sa (th_A ad LC sz) U U.heap) (va_Qi (fun (_ : Int32) (_ : Unit) => False) (fun _ _ => True) (th_A ad LC sz)) (vx_X (fun _ : Unit => True) (fun E _ t => E = xn_N ∧ va_P D vwCl (th_W cI cZ ad LC h) t.heap) (th_A ad LC sz)) 1 6 (th_A ad LC sz) := by
  refine vx_ofW (cc := cc) (maxL := maxL) (ret := some .int) hy rfl ?_
  intro p e s m args below meth c s₁ B hml ht hv
  obtain ⟨⟨rfl, hsz, hP, hK, hD, hN⟩, hE⟩ := hv
  subst hsz
  have hts0 := atoms_spec (ws := Cond.code y cc maxL (some .int) :: th_T) B.pre
  have X : th_X p s m (([.ref 0, .int x1, .int x2] : List Value).map (th_cv ad)).toArray meth c D cI cZ ad LC maxL RX3 cc (some .int) := ⟨B.exec, B.bytes, hml, ho ▸ findClass_of_methodNamed B.named, fun w hw => hts0 w (List.mem_cons_of_mem _ hw), hK, hD, B.notSynchronized, B.returns, hN⟩
  have hlv := lv_entry (([.ref 0, .int x1, .int x2] : List Value).map (th_cv ad)) (n := maxL) hfit
  rw [lg_entry_eq]
  generalize (lg_sl (([.ref 0, .int x1, .int x2] : List Value).map (th_cv ad)) ++ List.replicate (maxL - (lg_sl (([.ref 0, .int x1, .int x2] : List Value).map (th_cv ad))).length) Slot.unset).toArray = ls at hlv ⊢
  have hlv : lv_has ls maxL [(0, .ref (ad 0)), (1, .int x1), (2, .int x2)] := hlv
  refine lv_aload_n X.1 X.2.1 (th_da dt 0 rfl) rfl (lv_at hlv 0 rfl) ?_
  refine va_get (D := D) (ci := 3) (C := RX3) (T := TX3) (N := 11) X.1 X.2.1 X.2.2.2.2.1 iX3 X.2.2.2.1 X.2.2.2.2.2.1 hP 0 (th_W_at (L := LC) (i := 0) (d := .inr (3, [3, 4, 21, 29, 47, 55, 73, 0, 0, 91, 92])) rfl) rfl 1 (by decide) (X.2.2.2.2.1 _ wfl_X3_20) (fun _ z => z) (v := .ref (ad 2)) rfl (th_da dt 1 rfl) ?_
  refine lv_iload_n X.1 X.2.1 (th_da dt 2 rfl) rfl (lv_at hlv 1 rfl) ?_
  refine th_call X (rest := []) (va_runV (As := [.int x1]) (b := ad 2) (nL := maxL) (Ts := th_T) ⟨X.1, X.2.1, X.2.2.1, X.2.2.2.1, X.2.2.2.2.1⟩ (mX0_has l 2 isP_2 _ _ _ _ hf D cI cZ ad s.heap.size) (n := 1) ⟨callB_of 1 X.2.2.2.2.1 (th_good wcd_X0_has) rfl rfl rfl (X.2.2.2.2.1 _ win_X0_has) (X.2.2.2.2.1 _ wml_X3_80) hd_X0_has ⟨Nat.le_of_ble_eq_true rfl, Nat.le_of_ble_eq_true rfl⟩, X.2.2.2.2.1 _ wim_X0_has, X.2.2.2.2.1 _ wse_X0_has⟩ ⟨th_blind, va_recv X.2.2.2.2.2.1 hP (ci := 0) rfl (th_W_at (L := LC) (i := 2) (d := .inr (0, [5, 6, 7, 8, 9, 10, 11, 0, 0])) rfl), th_pre X hP⟩ rfl rfl hlv.1 rfl (lv_room (Nat.le_of_ble_eq_true rfl)) (th_da dt 3 rfl) ⟨Nat.zero_le _, Nat.zero_le _⟩) va_S.rf (fun H1 locs1 hP1 hS1 => ?_)
  refine lv_if_ne (tgt := 21) X.1 X.2.1 (th_da dt 4 rfl) (by decide) (fun z => absurd rfl z) (fun _ => ?_)
  refine ex_make (pc := 11) (sa := sa) (A := th_A ad LC s.heap.size) X.1 X.2.1 hl X.2.2.2.1 (X.2.2.2.2.1 _ ex_w1) (X.2.2.2.2.1 _ ex_w2) hE (ex_hat X.2.2.2.2.1 hE) hS1 (hlv.1.trans hml.symm) (th_da dt 5 rfl) (th_da dt 6 rfl) (th_da dt 7 rfl) (th_da dt 8 rfl) (Nat.le_of_ble_eq_true rfl) (Nat.le_of_ble_eq_true rfl) (Nat.le_of_ble_eq_true rfl) (Nat.le_of_ble_eq_true rfl) (fun q H2 ce hz hk hce hcv hcl => ?_)
  refine vx_athrow X.1 X.2.1 (th_da dt 9 rfl) ?_
  have hS2 : va_S (th_A ad LC s.heap.size) s.heap H2 locs1 := ⟨Nat.le_trans hS1.1 hz, fun x g1 g2 => (hk x (Nat.lt_of_lt_of_le g1 hS1.1)).trans (hS1.2.1 x g1 g2), hS1.2.2⟩
  have hP2 : va_P D vwCl (th_W cI cZ ad LC h) H2 := hP1.kept (fun k x hx => hk x.1 ((hP1 k x hx).lt))
  exact vx_out (fun x hx => (ht x hx).elim) X.2.2.2.2.2.2.2.1 hce hcv hcl (fun t hte _ => ⟨(), trivial, ⟨rfl, by rw [hte]; exact hP2⟩, hS2.F hte⟩) hS1.2.2 (Nat.le_of_ble_eq_true rfl) (Nat.le_of_ble_eq_true rfl)
theorem ex_dflow : th_dec cX3_flow ex_tb = true := by decide +kernel
theorem ex_dfair : th_dec cX3_fair ex_tb = true := by decide +kernel
theorem ex_dproof : th_dec cX3_proof ex_tb = true := by decide +kernel
