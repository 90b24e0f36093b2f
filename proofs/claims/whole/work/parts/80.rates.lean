theorem woi_X3 : Cond.methodLink RX3 3 Lib.objectInit ∈ th_T := th_in1 19 (by decide +kernel) rfl
theorem wcl_X3_9 : Cond.classLink RX3 9 RX1 ∈ th_T := th_in1 22 (by decide +kernel) rfl
theorem wis_X1 : Cond.instantiable RX1 16 ∈ th_T := th_in1 23 (by decide +kernel) rfl
theorem wnz_X1 : Cond.initialized RX1 ∈ th_T := th_in1 2 (by decide +kernel) rfl
theorem wnz_X2 : Cond.initialized RX2 ∈ th_T := win_X2_below
theorem wml_X3_11 : Cond.methodLink RX3 11 yX1_init ∈ th_T := th_in1 24 (by decide +kernel) rfl
theorem wim_X1_init : Cond.instanceMethod yX1_init ∈ th_T := th_in1 25 (by decide +kernel) rfl
theorem wcd_X1_init : Cond.code yX1_init cX1_init 1 none ∈ th_T := th_in1 26 (by decide +kernel) rfl
theorem wcl_X3_21 : Cond.classLink RX3 21 RX2 ∈ th_T := th_in1 141 (by decide +kernel) rfl
theorem wis_X2 : Cond.instantiable RX2 10 ∈ th_T := th_in1 142 (by decide +kernel) rfl
theorem wml_X3_23 : Cond.methodLink RX3 23 yX2_init ∈ th_T := th_in1 143 (by decide +kernel) rfl
theorem wim_X2_init : Cond.instanceMethod yX2_init ∈ th_T := th_in1 144 (by decide +kernel) rfl
theorem wcd_X2_init : Cond.code yX2_init cX2_init 2 none ∈ th_T := th_in1 145 (by decide +kernel) rfl
theorem hd_X1_init : yX1_init.cls ≠ "java/lang/invoke/MethodHandle" ∧ yX1_init.cls ≠ "java/lang/invoke/VarHandle" ∧ (parseMethodDescriptor yX1_init.desc).map (fun d => d.parameters.length) = some 0 := by decide +kernel
theorem hd_X2_init : yX2_init.cls ≠ "java/lang/invoke/MethodHandle" ∧ yX2_init.cls ≠ "java/lang/invoke/VarHandle" ∧ (parseMethodDescriptor yX2_init.desc).map (fun d => d.parameters.length) = some 1 := by decide +kernel
theorem dtX3_init : th_dec cX3_init [(0, .aload_n 0, 1), (1, .invokespecial 3, 3), (4, .aload_n 0, 1), (5, .new 9, 3), (8, .dup, 1), (9, .invokespecial 11, 3), (12, .putfield 12, 3), (15, .aload_n 0, 1), (16, .aload_n 0, 1), (17, .getfield 12, 3), (20, .getfield 16, 3), (23, .putfield 20, 3), (26, .aload_n 0, 1), (27, .new 21, 3), (30, .dup, 1), (31, .aload_n 0, 1), (32, .getfield 20, 3), (35, .invokespecial 23, 3), (38, .putfield 26, 3), (41, .aload_n 0, 1), (42, .new 9, 3), (45, .dup, 1), (46, .invokespecial 11, 3), (49, .putfield 30, 3), (52, .aload_n 0, 1), (53, .new 21, 3), (56, .dup, 1), (57, .aload_n 0, 1), (58, .getfield 30, 3), (61, .getfield 16, 3), (64, .invokespecial 23, 3), (67, .putfield 33, 3), (70, .aload_n 0, 1), (71, .new 9, 3), (74, .dup, 1), (75, .invokespecial 11, 3), (78, .putfield 36, 3), (81, .aload_n 0, 1), (82, .new 9, 3), (85, .dup, 1), (86, .invokespecial 11, 3), (89, .putfield 39, 3), (92, .aload_n 0, 1), (93, .iconst 5, 1), (94, .newarray .int, 2), (96, .putfield 42, 3), (99, .aload_n 0, 1), (100, .bipush 21, 2), (102, .newarray .int, 2), (104, .putfield 46, 3), (107, .return_, 1)] = true := by decide +kernel
abbrev fr_0 (h0 : Nat) : va_W := ((h0, .inr (3, [.null, .null, .null, .null, .null, .null, .null, .int 0, .int 0, .null, .null])) :: [])
abbrev fr_1 (cI cZ : ClassId) (h0 : Nat) (u : Nat → Nat → Nat) : va_W := ((h0, .inr (3, [.ref (u 0 1), .ref ((u 1) 1), .ref (u 0 2), .ref (u 0 3), .ref (u 0 4), .ref (u 0 5), .ref (u 0 6), .int 0, .int 0, .ref (u 0 7), .ref (u 0 8)])) :: ((((((((po_1 cI (u 0 1) (u 1)) ++ wa_1 cI cZ (u 0 2) ((u 1) 1) (u 2)) ++ po_1 cI (u 0 3) (u 3)) ++ wa_1 cI cZ (u 0 4) ((u 3) 1) (u 4)) ++ po_1 cI (u 0 5) (u 5)) ++ po_1 cI (u 0 6) (u 6)) ++ [((u 0 7), .inl (cI, 5, .inl (fun _ => 0)))]) ++ [((u 0 8), .inl (cI, 21, .inl (fun _ => 0)))]))
set_option maxHeartbeats 8000000 in
set_option maxRecDepth 100000 in
/-- FairRates(): four Posts, two Waters, two rows -/
theorem c_Rates_init (l : Launch) (D : va_G) (cI cZ : ClassId) (h0 sz : Nat) : Met l yX3_init (Cond.code yX3_init cX3_init 1 none :: th_T) { frames := 3, cells := 90, slots := 2966, locals := 52 } (va_Pc [.ref h0] (fun U => U.heap.size = sz ∧ va_P D vwCl (fr_0 h0) U.heap ∧ va_K D vwCl [(cI, .int), (cZ, .boolean)] U ∧ va_D (fun _ => True) (fr_0 h0) ∧ U.vm.findClass "[I" = some cI ∧ U.vm.findClass "[Z" = some cZ ∧ tn_NW U)) (va_Qv (fun _ : Nat → Nat → Nat => True) (fun u t => va_P D vwCl (fr_1 cI cZ h0 u) t.heap ∧ va_D (va_A (fr_0 h0) sz) (fr_1 cI cZ h0 u)) (va_A (fr_0 h0) sz)) 90 2966 (va_A (fr_0 h0) sz) := by
  refine Met.ofW (cc := cX3_init) (maxL := 1) (ret := none) (by decide) rfl ?_
  intro p e s m args below meth c s₁ B hml hv
  obtain ⟨rfl, hsz, hP, hK, hD0, hcI, hcZ, hN1, hN2⟩ := hv
  have hx := B.exec
  have hb := B.bytes
  have hr := B.returns
  have hts0 := atoms_spec (ws := Cond.code yX3_init cX3_init 1 none :: th_T) B.pre
  have hts : ∀ w ∈ th_T, w.before _ s = true := fun w hw => hts0 w (List.mem_cons_of_mem _ hw)
  have hown : s.vm.findClass RX3 = some m.cls := findClass_of_methodNamed B.named
  have hlocks := B.notSynchronized
  have hin : meth.name = "<init>" := (name_of_methodNamed B.named B.method).1
  subst hsz
  have hD := hD0.self (sz := s.heap.size)
  generalize hAe : va_A (fr_0 h0) s.heap.size = A at hD ⊢
  have hA : ∀ q : Nat, s.heap.size ≤ q → A q := fun q h => by rw [← hAe]; exact Or.inr h
  have hS : va_S A s.heap s.heap [] := va_S.rf
  have hP : va_P D vwCl ((h0, .inr (3, [.null, .null, .null, .null, .null, .null, .null, .int 0, .int 0, .null, .null])) :: []) s.heap := hP
  have hD : va_D A ((h0, .inr (3, [.null, .null, .null, .null, .null, .null, .null, .int 0, .int 0, .null, .null])) :: []) := hD
  have hl := lv_entry ([.ref h0]) (n := 1) (Nat.le_of_ble_eq_true rfl)
  rw [lg_entry_eq]
  generalize (lg_sl ([.ref h0]) ++ List.replicate (1 - (lg_sl ([.ref h0])).length) Slot.unset).toArray = ls at hl ⊢
  have hl : lv_has ls 1 [(0, .ref h0)] := hl
  refine lv_aload_n hx hb (th_da dtX3_init 0 rfl) rfl (lv_at hl 0 rfl) ?_
  refine W.objInit hx hb hown (hts _ woi_X3) (hts _ woi_i) (hts _ woi_c) rfl (by rw [hml]; exact hl.1) rfl (th_da dtX3_init 1 rfl) (Nat.le_of_ble_eq_true rfl) (Nat.le_of_ble_eq_true rfl) ?_
  refine W.eq (g2 := F0 m 4 ls []) rfl ?_
  refine lv_aload_n hx hb (th_da dtX3_init 2 rfl) rfl (lv_at hl 0 rfl) ?_
  refine va_new (ci := 1) (fs := [.null, .null, .null, .null, .null, .null, .null, .null, .int 0, .int 0, .int 0, .int 0, .null, .int 0, .null, .int 0]) (C := RX1) (T := TX1) (N := 16) hx hb hts iX1 tyX1 tyX1_ok hown (hts _ wcl_X3_9) (hts _ wis_X1) (hts _ wnz_X1) hK hP hD hS hA rfl (by decide) (Nat.le_of_ble_eq_true rfl) (Nat.le_of_ble_eq_true rfl) (th_da dtX3_init 3 rfl) (fun a1 H hP hD hS => ?_)
  have hP : va_P D vwCl ((h0, .inr (3, [.null, .null, .null, .null, .null, .null, .null, .int 0, .int 0, .null, .null])) :: [(a1, .inr (1, [.null, .null, .null, .null, .null, .null, .null, .null, .int 0, .int 0, .int 0, .int 0, .null, .int 0, .null, .int 0]))]) H := hP
  have hD : va_D A ((h0, .inr (3, [.null, .null, .null, .null, .null, .null, .null, .int 0, .int 0, .null, .null])) :: [(a1, .inr (1, [.null, .null, .null, .null, .null, .null, .null, .null, .int 0, .int 0, .int 0, .int 0, .null, .int 0, .null, .int 0]))]) := hD
  refine lv_dup hx hb (th_da dtX3_init 4 rfl) rfl ?_
  have hPc := hP.sub (ws' := po_0 a1) [1] rfl
  have hDc := hD.sub (ws' := po_0 a1) [1] (by decide) rfl
  have hFc := va_free (wc := po_0 a1) hD hS hA [1] rfl
  refine va_callv (va_runI (As := []) (rest := [.ref a1, .ref h0]) ⟨hx, hb, hml, hown, hts⟩ (c_Post_init l D cI cZ a1 H.size) ⟨callB_of 0 hts (th_good wcd_X1_init) rfl rfl rfl (hts _ wnz_X1) (hts _ wml_X3_11) hd_X1_init ⟨Nat.le_of_ble_eq_true rfl, Nat.le_of_ble_eq_true rfl⟩, rfl, hts _ wim_X1_init⟩ ⟨fun a U g mk q => by obtain ⟨q0, q1, qP, qK, qD, qc, qn1, qn2⟩ := q; exact ⟨q0, q1, qP, va_K.moved (u := U) (U := U.calling g mk a) (Vm.Alike.refl U.vm) qK, qD, qc, va_Nw.same rfl rfl qn1, va_Nw.same rfl rfl qn2⟩, fun U hU hW => ⟨rfl, by rw [hU], by rw [hU]; exact hPc, va_K.moved hW.alike hK, hDc.weaken (fun _ _ _ _ => trivial), (by rw [← hcI]; exact (hW.alike.findClass _ _)), va_Nw.warmM hW hN1, va_Nw.warmM hW hN2⟩⟩ rfl rfl hl.1 rfl (lv_room (Nat.le_of_ble_eq_true rfl)) (th_da dtX3_init 5 rfl) ⟨Nat.le_of_ble_eq_true rfl, Nat.le_of_ble_eq_true rfl⟩) hS (fun q _ h => hFc q h) hFc (fun u1 t H1 locs ht hvm hw hB hz1 hk1 hS => ?_)
  obtain ⟨hP1, hD1⟩ := hB
  rw [ht] at hP1
  obtain ⟨hP, hD⟩ := va_join (wr := ((h0, .inr (3, [.null, .null, .null, .null, .null, .null, .null, .int 0, .int 0, .null, .null])) :: [])) (w1 := po_1 cI a1 u1) hP hD [1] [0] rfl rfl (by decide) (by decide) hk1 hFc hP1 hD1
  generalize H1 = H at hP hS ⊢
  have hP : va_P D vwCl ((h0, .inr (3, [.null, .null, .null, .null, .null, .null, .null, .int 0, .int 0, .null, .null])) :: (po_1 cI a1 u1)) H := hP
  have hD : va_D A ((h0, .inr (3, [.null, .null, .null, .null, .null, .null, .null, .int 0, .int 0, .null, .null])) :: (po_1 cI a1 u1)) := hD
  refine va_putF (D := D) (ci := 3) (v := .ref a1) (ty := .object "FairRates$Post") (C := RX3) (T := TX3) (N := 11) hx hb hts iX3 tyX3 tyX3_ok nmX3 hown hK hP hD hS 0 rfl rfl 0 (by decide) (hts _ wfl_X3_12) (fun _ h9 => h9) rfl hin rfl (by decide +kernel) rfl rfl (Nat.le_of_ble_eq_true rfl) (th_da dtX3_init 6 rfl) (fun H locs hP hD hS => ?_)
  have hP : va_P D vwCl ((h0, .inr (3, [.ref a1, .null, .null, .null, .null, .null, .null, .int 0, .int 0, .null, .null])) :: (po_1 cI a1 u1)) H := hP
  have hD : va_D A ((h0, .inr (3, [.ref a1, .null, .null, .null, .null, .null, .null, .int 0, .int 0, .null, .null])) :: (po_1 cI a1 u1)) := hD
  refine lv_aload_n hx hb (th_da dtX3_init 7 rfl) rfl (lv_at hl 0 rfl) ?_
  refine lv_aload_n hx hb (th_da dtX3_init 8 rfl) rfl (lv_at hl 0 rfl) ?_
  refine va_get (D := D) (ci := 3) (v := .ref a1) (C := RX3) (T := TX3) (N := 11) hx hb hts iX3 hown hK hP 0 rfl rfl 0 (by decide) (hts _ wfl_X3_12) (fun _ h9 => h9) rfl (th_da dtX3_init 9 rfl) ?_
  refine va_get (D := D) (ci := 1) (v := .ref (u1 1)) (C := RX1) (T := TX1) (N := 16) hx hb hts iX1 hown hK hP 1 rfl rfl 0 (by decide) (hts _ wfl_X3_16) (fun _ h9 => h9) rfl (th_da dtX3_init 10 rfl) ?_
  refine va_putF (D := D) (ci := 3) (v := .ref (u1 1)) (ty := .object "FairRates$Plan") (C := RX3) (T := TX3) (N := 11) hx hb hts iX3 tyX3 tyX3_ok nmX3 hown hK hP hD hS 0 rfl rfl 1 (by decide) (hts _ wfl_X3_20) (fun _ h9 => h9) rfl hin rfl (by decide +kernel) rfl rfl (Nat.le_of_ble_eq_true rfl) (th_da dtX3_init 11 rfl) (fun H locs hP hD hS => ?_)
  have hP : va_P D vwCl ((h0, .inr (3, [.ref a1, .ref (u1 1), .null, .null, .null, .null, .null, .int 0, .int 0, .null, .null])) :: (po_1 cI a1 u1)) H := hP
  have hD : va_D A ((h0, .inr (3, [.ref a1, .ref (u1 1), .null, .null, .null, .null, .null, .int 0, .int 0, .null, .null])) :: (po_1 cI a1 u1)) := hD
  refine lv_aload_n hx hb (th_da dtX3_init 12 rfl) rfl (lv_at hl 0 rfl) ?_
  refine va_new (ci := 2) (fs := [.null, .null, .null, .null, .null, .null, .null, .null, .int 0, .int 0]) (C := RX2) (T := TX2) (N := 10) hx hb hts iX2 tyX2 tyX2_ok hown (hts _ wcl_X3_21) (hts _ wis_X2) (hts _ wnz_X2) hK hP hD hS hA rfl (by decide) (Nat.le_of_ble_eq_true rfl) (Nat.le_of_ble_eq_true rfl) (th_da dtX3_init 13 rfl) (fun a2 H hP hD hS => ?_)
  have hP : va_P D vwCl ((h0, .inr (3, [.ref a1, .ref (u1 1), .null, .null, .null, .null, .null, .int 0, .int 0, .null, .null])) :: ((po_1 cI a1 u1) ++ [(a2, .inr (2, [.null, .null, .null, .null, .null, .null, .null, .null, .int 0, .int 0]))])) H := hP
  have hD : va_D A ((h0, .inr (3, [.ref a1, .ref (u1 1), .null, .null, .null, .null, .null, .int 0, .int 0, .null, .null])) :: ((po_1 cI a1 u1) ++ [(a2, .inr (2, [.null, .null, .null, .null, .null, .null, .null, .null, .int 0, .int 0]))])) := hD
  refine lv_dup hx hb (th_da dtX3_init 14 rfl) rfl ?_
  refine lv_aload_n hx hb (th_da dtX3_init 15 rfl) rfl (lv_at hl 0 rfl) ?_
  refine va_get (D := D) (ci := 3) (v := .ref (u1 1)) (C := RX3) (T := TX3) (N := 11) hx hb hts iX3 hown hK hP 0 rfl rfl 1 (by decide) (hts _ wfl_X3_20) (fun _ h9 => h9) rfl (th_da dtX3_init 16 rfl) ?_
  have hPc := hP.sub (ws' := wa_0 a2) [19] rfl
  have hDc := hD.sub (ws' := wa_0 a2) [19] (by decide) rfl
  have hFc := va_free (wc := wa_0 a2) hD hS hA [19] rfl
  refine va_callv (va_runI (As := [.ref (u1 1)]) (rest := [.ref a2, .ref h0]) ⟨hx, hb, hml, hown, hts⟩ (c_wa_init l D cI cZ a2 H.size (u1 1)) ⟨callB_of 1 hts (th_good wcd_X2_init) rfl rfl rfl (hts _ wnz_X2) (hts _ wml_X3_23) hd_X2_init ⟨Nat.le_of_ble_eq_true rfl, Nat.le_of_ble_eq_true rfl⟩, rfl, hts _ wim_X2_init⟩ ⟨fun a U g mk q => by obtain ⟨q0, q1, qP, qK, qD, qc, qz⟩ := q; exact ⟨q0, q1, qP, va_K.moved (u := U) (U := U.calling g mk a) (Vm.Alike.refl U.vm) qK, qD, qc, qz⟩, fun U hU hW => ⟨rfl, by rw [hU], by rw [hU]; exact hPc, va_K.moved hW.alike hK, hDc.weaken (fun _ _ _ _ => trivial), (by rw [← hcI]; exact (hW.alike.findClass _ _)), (by rw [← hcZ]; exact (hW.alike.findClass _ _))⟩⟩ rfl rfl hl.1 rfl (lv_room (Nat.le_of_ble_eq_true rfl)) (th_da dtX3_init 17 rfl) ⟨Nat.le_of_ble_eq_true rfl, Nat.le_of_ble_eq_true rfl⟩) hS (fun q _ h => hFc q h) hFc (fun u2 t H1 locs ht hvm hw hB hz1 hk1 hS => ?_)
  obtain ⟨hP1, hD1⟩ := hB
  rw [ht] at hP1
  obtain ⟨hP, hD⟩ := va_join (wr := ((h0, .inr (3, [.ref a1, .ref (u1 1), .null, .null, .null, .null, .null, .int 0, .int 0, .null, .null])) :: (po_1 cI a1 u1))) (w1 := wa_1 cI cZ a2 (u1 1) u2) hP hD [19] [0, 1, 2, 3, 4, 5, 6, 7, 8, 9, 10, 11, 12, 13, 14, 15, 16, 17, 18] rfl rfl (by decide) (by decide) hk1 hFc hP1 hD1
  generalize H1 = H at hP hS ⊢
  have hP : va_P D vwCl ((h0, .inr (3, [.ref a1, .ref (u1 1), .null, .null, .null, .null, .null, .int 0, .int 0, .null, .null])) :: ((po_1 cI a1 u1) ++ wa_1 cI cZ a2 (u1 1) u2)) H := hP
  have hD : va_D A ((h0, .inr (3, [.ref a1, .ref (u1 1), .null, .null, .null, .null, .null, .int 0, .int 0, .null, .null])) :: ((po_1 cI a1 u1) ++ wa_1 cI cZ a2 (u1 1) u2)) := hD
  refine va_putF (D := D) (ci := 3) (v := .ref a2) (ty := .object "FairRates$Water") (C := RX3) (T := TX3) (N := 11) hx hb hts iX3 tyX3 tyX3_ok nmX3 hown hK hP hD hS 0 rfl rfl 2 (by decide) (hts _ wfl_X3_26) (fun _ h9 => h9) rfl hin rfl (by decide +kernel) rfl rfl (Nat.le_of_ble_eq_true rfl) (th_da dtX3_init 18 rfl) (fun H locs hP hD hS => ?_)
  have hP : va_P D vwCl ((h0, .inr (3, [.ref a1, .ref (u1 1), .ref a2, .null, .null, .null, .null, .int 0, .int 0, .null, .null])) :: ((po_1 cI a1 u1) ++ wa_1 cI cZ a2 (u1 1) u2)) H := hP
  have hD : va_D A ((h0, .inr (3, [.ref a1, .ref (u1 1), .ref a2, .null, .null, .null, .null, .int 0, .int 0, .null, .null])) :: ((po_1 cI a1 u1) ++ wa_1 cI cZ a2 (u1 1) u2)) := hD
  refine lv_aload_n hx hb (th_da dtX3_init 19 rfl) rfl (lv_at hl 0 rfl) ?_
  refine va_new (ci := 1) (fs := [.null, .null, .null, .null, .null, .null, .null, .null, .int 0, .int 0, .int 0, .int 0, .null, .int 0, .null, .int 0]) (C := RX1) (T := TX1) (N := 16) hx hb hts iX1 tyX1 tyX1_ok hown (hts _ wcl_X3_9) (hts _ wis_X1) (hts _ wnz_X1) hK hP hD hS hA rfl (by decide) (Nat.le_of_ble_eq_true rfl) (Nat.le_of_ble_eq_true rfl) (th_da dtX3_init 20 rfl) (fun a3 H hP hD hS => ?_)
  have hP : va_P D vwCl ((h0, .inr (3, [.ref a1, .ref (u1 1), .ref a2, .null, .null, .null, .null, .int 0, .int 0, .null, .null])) :: (((po_1 cI a1 u1) ++ wa_1 cI cZ a2 (u1 1) u2) ++ [(a3, .inr (1, [.null, .null, .null, .null, .null, .null, .null, .null, .int 0, .int 0, .int 0, .int 0, .null, .int 0, .null, .int 0]))])) H := hP
  have hD : va_D A ((h0, .inr (3, [.ref a1, .ref (u1 1), .ref a2, .null, .null, .null, .null, .int 0, .int 0, .null, .null])) :: (((po_1 cI a1 u1) ++ wa_1 cI cZ a2 (u1 1) u2) ++ [(a3, .inr (1, [.null, .null, .null, .null, .null, .null, .null, .null, .int 0, .int 0, .int 0, .int 0, .null, .int 0, .null, .int 0]))])) := hD
  refine lv_dup hx hb (th_da dtX3_init 21 rfl) rfl ?_
  have hPc := hP.sub (ws' := po_0 a3) [27] rfl
  have hDc := hD.sub (ws' := po_0 a3) [27] (by decide) rfl
  have hFc := va_free (wc := po_0 a3) hD hS hA [27] rfl
  refine va_callv (va_runI (As := []) (rest := [.ref a3, .ref h0]) ⟨hx, hb, hml, hown, hts⟩ (c_Post_init l D cI cZ a3 H.size) ⟨callB_of 0 hts (th_good wcd_X1_init) rfl rfl rfl (hts _ wnz_X1) (hts _ wml_X3_11) hd_X1_init ⟨Nat.le_of_ble_eq_true rfl, Nat.le_of_ble_eq_true rfl⟩, rfl, hts _ wim_X1_init⟩ ⟨fun a U g mk q => by obtain ⟨q0, q1, qP, qK, qD, qc, qn1, qn2⟩ := q; exact ⟨q0, q1, qP, va_K.moved (u := U) (U := U.calling g mk a) (Vm.Alike.refl U.vm) qK, qD, qc, va_Nw.same rfl rfl qn1, va_Nw.same rfl rfl qn2⟩, fun U hU hW => ⟨rfl, by rw [hU], by rw [hU]; exact hPc, va_K.moved hW.alike hK, hDc.weaken (fun _ _ _ _ => trivial), (by rw [← hcI]; exact (hW.alike.findClass _ _)), va_Nw.warmM hW hN1, va_Nw.warmM hW hN2⟩⟩ rfl rfl hl.1 rfl (lv_room (Nat.le_of_ble_eq_true rfl)) (th_da dtX3_init 22 rfl) ⟨Nat.le_of_ble_eq_true rfl, Nat.le_of_ble_eq_true rfl⟩) hS (fun q _ h => hFc q h) hFc (fun u3 t H1 locs ht hvm hw hB hz1 hk1 hS => ?_)
  obtain ⟨hP1, hD1⟩ := hB
  rw [ht] at hP1
  obtain ⟨hP, hD⟩ := va_join (wr := ((h0, .inr (3, [.ref a1, .ref (u1 1), .ref a2, .null, .null, .null, .null, .int 0, .int 0, .null, .null])) :: ((po_1 cI a1 u1) ++ wa_1 cI cZ a2 (u1 1) u2))) (w1 := po_1 cI a3 u3) hP hD [27] [0, 1, 2, 3, 4, 5, 6, 7, 8, 9, 10, 11, 12, 13, 14, 15, 16, 17, 18, 19, 20, 21, 22, 23, 24, 25, 26] rfl rfl (by decide) (by decide) hk1 hFc hP1 hD1
  generalize H1 = H at hP hS ⊢
  have hP : va_P D vwCl ((h0, .inr (3, [.ref a1, .ref (u1 1), .ref a2, .null, .null, .null, .null, .int 0, .int 0, .null, .null])) :: (((po_1 cI a1 u1) ++ wa_1 cI cZ a2 (u1 1) u2) ++ po_1 cI a3 u3)) H := hP
  have hD : va_D A ((h0, .inr (3, [.ref a1, .ref (u1 1), .ref a2, .null, .null, .null, .null, .int 0, .int 0, .null, .null])) :: (((po_1 cI a1 u1) ++ wa_1 cI cZ a2 (u1 1) u2) ++ po_1 cI a3 u3)) := hD
  refine va_putF (D := D) (ci := 3) (v := .ref a3) (ty := .object "FairRates$Post") (C := RX3) (T := TX3) (N := 11) hx hb hts iX3 tyX3 tyX3_ok nmX3 hown hK hP hD hS 0 rfl rfl 3 (by decide) (hts _ wfl_X3_30) (fun _ h9 => h9) rfl hin rfl (by decide +kernel) rfl rfl (Nat.le_of_ble_eq_true rfl) (th_da dtX3_init 23 rfl) (fun H locs hP hD hS => ?_)
  have hP : va_P D vwCl ((h0, .inr (3, [.ref a1, .ref (u1 1), .ref a2, .ref a3, .null, .null, .null, .int 0, .int 0, .null, .null])) :: (((po_1 cI a1 u1) ++ wa_1 cI cZ a2 (u1 1) u2) ++ po_1 cI a3 u3)) H := hP
  have hD : va_D A ((h0, .inr (3, [.ref a1, .ref (u1 1), .ref a2, .ref a3, .null, .null, .null, .int 0, .int 0, .null, .null])) :: (((po_1 cI a1 u1) ++ wa_1 cI cZ a2 (u1 1) u2) ++ po_1 cI a3 u3)) := hD
  refine lv_aload_n hx hb (th_da dtX3_init 24 rfl) rfl (lv_at hl 0 rfl) ?_
  refine va_new (ci := 2) (fs := [.null, .null, .null, .null, .null, .null, .null, .null, .int 0, .int 0]) (C := RX2) (T := TX2) (N := 10) hx hb hts iX2 tyX2 tyX2_ok hown (hts _ wcl_X3_21) (hts _ wis_X2) (hts _ wnz_X2) hK hP hD hS hA rfl (by decide) (Nat.le_of_ble_eq_true rfl) (Nat.le_of_ble_eq_true rfl) (th_da dtX3_init 25 rfl) (fun a4 H hP hD hS => ?_)
  have hP : va_P D vwCl ((h0, .inr (3, [.ref a1, .ref (u1 1), .ref a2, .ref a3, .null, .null, .null, .int 0, .int 0, .null, .null])) :: ((((po_1 cI a1 u1) ++ wa_1 cI cZ a2 (u1 1) u2) ++ po_1 cI a3 u3) ++ [(a4, .inr (2, [.null, .null, .null, .null, .null, .null, .null, .null, .int 0, .int 0]))])) H := hP
  have hD : va_D A ((h0, .inr (3, [.ref a1, .ref (u1 1), .ref a2, .ref a3, .null, .null, .null, .int 0, .int 0, .null, .null])) :: ((((po_1 cI a1 u1) ++ wa_1 cI cZ a2 (u1 1) u2) ++ po_1 cI a3 u3) ++ [(a4, .inr (2, [.null, .null, .null, .null, .null, .null, .null, .null, .int 0, .int 0]))])) := hD
  refine lv_dup hx hb (th_da dtX3_init 26 rfl) rfl ?_
  refine lv_aload_n hx hb (th_da dtX3_init 27 rfl) rfl (lv_at hl 0 rfl) ?_
  refine va_get (D := D) (ci := 3) (v := .ref a3) (C := RX3) (T := TX3) (N := 11) hx hb hts iX3 hown hK hP 0 rfl rfl 3 (by decide) (hts _ wfl_X3_30) (fun _ h9 => h9) rfl (th_da dtX3_init 28 rfl) ?_
  refine va_get (D := D) (ci := 1) (v := .ref (u3 1)) (C := RX1) (T := TX1) (N := 16) hx hb hts iX1 hown hK hP 27 rfl rfl 0 (by decide) (hts _ wfl_X3_16) (fun _ h9 => h9) rfl (th_da dtX3_init 29 rfl) ?_
  have hPc := hP.sub (ws' := wa_0 a4) [45] rfl
  have hDc := hD.sub (ws' := wa_0 a4) [45] (by decide) rfl
  have hFc := va_free (wc := wa_0 a4) hD hS hA [45] rfl
  refine va_callv (va_runI (As := [.ref (u3 1)]) (rest := [.ref a4, .ref h0]) ⟨hx, hb, hml, hown, hts⟩ (c_wa_init l D cI cZ a4 H.size (u3 1)) ⟨callB_of 1 hts (th_good wcd_X2_init) rfl rfl rfl (hts _ wnz_X2) (hts _ wml_X3_23) hd_X2_init ⟨Nat.le_of_ble_eq_true rfl, Nat.le_of_ble_eq_true rfl⟩, rfl, hts _ wim_X2_init⟩ ⟨fun a U g mk q => by obtain ⟨q0, q1, qP, qK, qD, qc, qz⟩ := q; exact ⟨q0, q1, qP, va_K.moved (u := U) (U := U.calling g mk a) (Vm.Alike.refl U.vm) qK, qD, qc, qz⟩, fun U hU hW => ⟨rfl, by rw [hU], by rw [hU]; exact hPc, va_K.moved hW.alike hK, hDc.weaken (fun _ _ _ _ => trivial), (by rw [← hcI]; exact (hW.alike.findClass _ _)), (by rw [← hcZ]; exact (hW.alike.findClass _ _))⟩⟩ rfl rfl hl.1 rfl (lv_room (Nat.le_of_ble_eq_true rfl)) (th_da dtX3_init 30 rfl) ⟨Nat.le_of_ble_eq_true rfl, Nat.le_of_ble_eq_true rfl⟩) hS (fun q _ h => hFc q h) hFc (fun u4 t H1 locs ht hvm hw hB hz1 hk1 hS => ?_)
  obtain ⟨hP1, hD1⟩ := hB
  rw [ht] at hP1
  obtain ⟨hP, hD⟩ := va_join (wr := ((h0, .inr (3, [.ref a1, .ref (u1 1), .ref a2, .ref a3, .null, .null, .null, .int 0, .int 0, .null, .null])) :: (((po_1 cI a1 u1) ++ wa_1 cI cZ a2 (u1 1) u2) ++ po_1 cI a3 u3))) (w1 := wa_1 cI cZ a4 (u3 1) u4) hP hD [45] [0, 1, 2, 3, 4, 5, 6, 7, 8, 9, 10, 11, 12, 13, 14, 15, 16, 17, 18, 19, 20, 21, 22, 23, 24, 25, 26, 27, 28, 29, 30, 31, 32, 33, 34, 35, 36, 37, 38, 39, 40, 41, 42, 43, 44] rfl rfl (by decide) (by decide) hk1 hFc hP1 hD1
  generalize H1 = H at hP hS ⊢
  have hP : va_P D vwCl ((h0, .inr (3, [.ref a1, .ref (u1 1), .ref a2, .ref a3, .null, .null, .null, .int 0, .int 0, .null, .null])) :: ((((po_1 cI a1 u1) ++ wa_1 cI cZ a2 (u1 1) u2) ++ po_1 cI a3 u3) ++ wa_1 cI cZ a4 (u3 1) u4)) H := hP
  have hD : va_D A ((h0, .inr (3, [.ref a1, .ref (u1 1), .ref a2, .ref a3, .null, .null, .null, .int 0, .int 0, .null, .null])) :: ((((po_1 cI a1 u1) ++ wa_1 cI cZ a2 (u1 1) u2) ++ po_1 cI a3 u3) ++ wa_1 cI cZ a4 (u3 1) u4)) := hD
  refine va_putF (D := D) (ci := 3) (v := .ref a4) (ty := .object "FairRates$Water") (C := RX3) (T := TX3) (N := 11) hx hb hts iX3 tyX3 tyX3_ok nmX3 hown hK hP hD hS 0 rfl rfl 4 (by decide) (hts _ wfl_X3_33) (fun _ h9 => h9) rfl hin rfl (by decide +kernel) rfl rfl (Nat.le_of_ble_eq_true rfl) (th_da dtX3_init 31 rfl) (fun H locs hP hD hS => ?_)
  have hP : va_P D vwCl ((h0, .inr (3, [.ref a1, .ref (u1 1), .ref a2, .ref a3, .ref a4, .null, .null, .int 0, .int 0, .null, .null])) :: ((((po_1 cI a1 u1) ++ wa_1 cI cZ a2 (u1 1) u2) ++ po_1 cI a3 u3) ++ wa_1 cI cZ a4 (u3 1) u4)) H := hP
  have hD : va_D A ((h0, .inr (3, [.ref a1, .ref (u1 1), .ref a2, .ref a3, .ref a4, .null, .null, .int 0, .int 0, .null, .null])) :: ((((po_1 cI a1 u1) ++ wa_1 cI cZ a2 (u1 1) u2) ++ po_1 cI a3 u3) ++ wa_1 cI cZ a4 (u3 1) u4)) := hD
  refine lv_aload_n hx hb (th_da dtX3_init 32 rfl) rfl (lv_at hl 0 rfl) ?_
  refine va_new (ci := 1) (fs := [.null, .null, .null, .null, .null, .null, .null, .null, .int 0, .int 0, .int 0, .int 0, .null, .int 0, .null, .int 0]) (C := RX1) (T := TX1) (N := 16) hx hb hts iX1 tyX1 tyX1_ok hown (hts _ wcl_X3_9) (hts _ wis_X1) (hts _ wnz_X1) hK hP hD hS hA rfl (by decide) (Nat.le_of_ble_eq_true rfl) (Nat.le_of_ble_eq_true rfl) (th_da dtX3_init 33 rfl) (fun a5 H hP hD hS => ?_)
  have hP : va_P D vwCl ((h0, .inr (3, [.ref a1, .ref (u1 1), .ref a2, .ref a3, .ref a4, .null, .null, .int 0, .int 0, .null, .null])) :: (((((po_1 cI a1 u1) ++ wa_1 cI cZ a2 (u1 1) u2) ++ po_1 cI a3 u3) ++ wa_1 cI cZ a4 (u3 1) u4) ++ [(a5, .inr (1, [.null, .null, .null, .null, .null, .null, .null, .null, .int 0, .int 0, .int 0, .int 0, .null, .int 0, .null, .int 0]))])) H := hP
  have hD : va_D A ((h0, .inr (3, [.ref a1, .ref (u1 1), .ref a2, .ref a3, .ref a4, .null, .null, .int 0, .int 0, .null, .null])) :: (((((po_1 cI a1 u1) ++ wa_1 cI cZ a2 (u1 1) u2) ++ po_1 cI a3 u3) ++ wa_1 cI cZ a4 (u3 1) u4) ++ [(a5, .inr (1, [.null, .null, .null, .null, .null, .null, .null, .null, .int 0, .int 0, .int 0, .int 0, .null, .int 0, .null, .int 0]))])) := hD
  refine lv_dup hx hb (th_da dtX3_init 34 rfl) rfl ?_
  have hPc := hP.sub (ws' := po_0 a5) [53] rfl
  have hDc := hD.sub (ws' := po_0 a5) [53] (by decide) rfl
  have hFc := va_free (wc := po_0 a5) hD hS hA [53] rfl
  refine va_callv (va_runI (As := []) (rest := [.ref a5, .ref h0]) ⟨hx, hb, hml, hown, hts⟩ (c_Post_init l D cI cZ a5 H.size) ⟨callB_of 0 hts (th_good wcd_X1_init) rfl rfl rfl (hts _ wnz_X1) (hts _ wml_X3_11) hd_X1_init ⟨Nat.le_of_ble_eq_true rfl, Nat.le_of_ble_eq_true rfl⟩, rfl, hts _ wim_X1_init⟩ ⟨fun a U g mk q => by obtain ⟨q0, q1, qP, qK, qD, qc, qn1, qn2⟩ := q; exact ⟨q0, q1, qP, va_K.moved (u := U) (U := U.calling g mk a) (Vm.Alike.refl U.vm) qK, qD, qc, va_Nw.same rfl rfl qn1, va_Nw.same rfl rfl qn2⟩, fun U hU hW => ⟨rfl, by rw [hU], by rw [hU]; exact hPc, va_K.moved hW.alike hK, hDc.weaken (fun _ _ _ _ => trivial), (by rw [← hcI]; exact (hW.alike.findClass _ _)), va_Nw.warmM hW hN1, va_Nw.warmM hW hN2⟩⟩ rfl rfl hl.1 rfl (lv_room (Nat.le_of_ble_eq_true rfl)) (th_da dtX3_init 35 rfl) ⟨Nat.le_of_ble_eq_true rfl, Nat.le_of_ble_eq_true rfl⟩) hS (fun q _ h => hFc q h) hFc (fun u5 t H1 locs ht hvm hw hB hz1 hk1 hS => ?_)
  obtain ⟨hP1, hD1⟩ := hB
  rw [ht] at hP1
  obtain ⟨hP, hD⟩ := va_join (wr := ((h0, .inr (3, [.ref a1, .ref (u1 1), .ref a2, .ref a3, .ref a4, .null, .null, .int 0, .int 0, .null, .null])) :: ((((po_1 cI a1 u1) ++ wa_1 cI cZ a2 (u1 1) u2) ++ po_1 cI a3 u3) ++ wa_1 cI cZ a4 (u3 1) u4))) (w1 := po_1 cI a5 u5) hP hD [53] [0, 1, 2, 3, 4, 5, 6, 7, 8, 9, 10, 11, 12, 13, 14, 15, 16, 17, 18, 19, 20, 21, 22, 23, 24, 25, 26, 27, 28, 29, 30, 31, 32, 33, 34, 35, 36, 37, 38, 39, 40, 41, 42, 43, 44, 45, 46, 47, 48, 49, 50, 51, 52] rfl rfl (by decide) (by decide) hk1 hFc hP1 hD1
  generalize H1 = H at hP hS ⊢
  have hP : va_P D vwCl ((h0, .inr (3, [.ref a1, .ref (u1 1), .ref a2, .ref a3, .ref a4, .null, .null, .int 0, .int 0, .null, .null])) :: (((((po_1 cI a1 u1) ++ wa_1 cI cZ a2 (u1 1) u2) ++ po_1 cI a3 u3) ++ wa_1 cI cZ a4 (u3 1) u4) ++ po_1 cI a5 u5)) H := hP
  have hD : va_D A ((h0, .inr (3, [.ref a1, .ref (u1 1), .ref a2, .ref a3, .ref a4, .null, .null, .int 0, .int 0, .null, .null])) :: (((((po_1 cI a1 u1) ++ wa_1 cI cZ a2 (u1 1) u2) ++ po_1 cI a3 u3) ++ wa_1 cI cZ a4 (u3 1) u4) ++ po_1 cI a5 u5)) := hD
  refine va_putF (D := D) (ci := 3) (v := .ref a5) (ty := .object "FairRates$Post") (C := RX3) (T := TX3) (N := 11) hx hb hts iX3 tyX3 tyX3_ok nmX3 hown hK hP hD hS 0 rfl rfl 5 (by decide) (hts _ wfl_X3_36) (fun _ h9 => h9) rfl hin rfl (by decide +kernel) rfl rfl (Nat.le_of_ble_eq_true rfl) (th_da dtX3_init 36 rfl) (fun H locs hP hD hS => ?_)
  have hP : va_P D vwCl ((h0, .inr (3, [.ref a1, .ref (u1 1), .ref a2, .ref a3, .ref a4, .ref a5, .null, .int 0, .int 0, .null, .null])) :: (((((po_1 cI a1 u1) ++ wa_1 cI cZ a2 (u1 1) u2) ++ po_1 cI a3 u3) ++ wa_1 cI cZ a4 (u3 1) u4) ++ po_1 cI a5 u5)) H := hP
  have hD : va_D A ((h0, .inr (3, [.ref a1, .ref (u1 1), .ref a2, .ref a3, .ref a4, .ref a5, .null, .int 0, .int 0, .null, .null])) :: (((((po_1 cI a1 u1) ++ wa_1 cI cZ a2 (u1 1) u2) ++ po_1 cI a3 u3) ++ wa_1 cI cZ a4 (u3 1) u4) ++ po_1 cI a5 u5)) := hD
  refine lv_aload_n hx hb (th_da dtX3_init 37 rfl) rfl (lv_at hl 0 rfl) ?_
  refine va_new (ci := 1) (fs := [.null, .null, .null, .null, .null, .null, .null, .null, .int 0, .int 0, .int 0, .int 0, .null, .int 0, .null, .int 0]) (C := RX1) (T := TX1) (N := 16) hx hb hts iX1 tyX1 tyX1_ok hown (hts _ wcl_X3_9) (hts _ wis_X1) (hts _ wnz_X1) hK hP hD hS hA rfl (by decide) (Nat.le_of_ble_eq_true rfl) (Nat.le_of_ble_eq_true rfl) (th_da dtX3_init 38 rfl) (fun a6 H hP hD hS => ?_)
  have hP : va_P D vwCl ((h0, .inr (3, [.ref a1, .ref (u1 1), .ref a2, .ref a3, .ref a4, .ref a5, .null, .int 0, .int 0, .null, .null])) :: ((((((po_1 cI a1 u1) ++ wa_1 cI cZ a2 (u1 1) u2) ++ po_1 cI a3 u3) ++ wa_1 cI cZ a4 (u3 1) u4) ++ po_1 cI a5 u5) ++ [(a6, .inr (1, [.null, .null, .null, .null, .null, .null, .null, .null, .int 0, .int 0, .int 0, .int 0, .null, .int 0, .null, .int 0]))])) H := hP
  have hD : va_D A ((h0, .inr (3, [.ref a1, .ref (u1 1), .ref a2, .ref a3, .ref a4, .ref a5, .null, .int 0, .int 0, .null, .null])) :: ((((((po_1 cI a1 u1) ++ wa_1 cI cZ a2 (u1 1) u2) ++ po_1 cI a3 u3) ++ wa_1 cI cZ a4 (u3 1) u4) ++ po_1 cI a5 u5) ++ [(a6, .inr (1, [.null, .null, .null, .null, .null, .null, .null, .null, .int 0, .int 0, .int 0, .int 0, .null, .int 0, .null, .int 0]))])) := hD
  refine lv_dup hx hb (th_da dtX3_init 39 rfl) rfl ?_
  have hPc := hP.sub (ws' := po_0 a6) [71] rfl
  have hDc := hD.sub (ws' := po_0 a6) [71] (by decide) rfl
  have hFc := va_free (wc := po_0 a6) hD hS hA [71] rfl
  refine va_callv (va_runI (As := []) (rest := [.ref a6, .ref h0]) ⟨hx, hb, hml, hown, hts⟩ (c_Post_init l D cI cZ a6 H.size) ⟨callB_of 0 hts (th_good wcd_X1_init) rfl rfl rfl (hts _ wnz_X1) (hts _ wml_X3_11) hd_X1_init ⟨Nat.le_of_ble_eq_true rfl, Nat.le_of_ble_eq_true rfl⟩, rfl, hts _ wim_X1_init⟩ ⟨fun a U g mk q => by obtain ⟨q0, q1, qP, qK, qD, qc, qn1, qn2⟩ := q; exact ⟨q0, q1, qP, va_K.moved (u := U) (U := U.calling g mk a) (Vm.Alike.refl U.vm) qK, qD, qc, va_Nw.same rfl rfl qn1, va_Nw.same rfl rfl qn2⟩, fun U hU hW => ⟨rfl, by rw [hU], by rw [hU]; exact hPc, va_K.moved hW.alike hK, hDc.weaken (fun _ _ _ _ => trivial), (by rw [← hcI]; exact (hW.alike.findClass _ _)), va_Nw.warmM hW hN1, va_Nw.warmM hW hN2⟩⟩ rfl rfl hl.1 rfl (lv_room (Nat.le_of_ble_eq_true rfl)) (th_da dtX3_init 40 rfl) ⟨Nat.le_of_ble_eq_true rfl, Nat.le_of_ble_eq_true rfl⟩) hS (fun q _ h => hFc q h) hFc (fun u6 t H1 locs ht hvm hw hB hz1 hk1 hS => ?_)
  obtain ⟨hP1, hD1⟩ := hB
  rw [ht] at hP1
  obtain ⟨hP, hD⟩ := va_join (wr := ((h0, .inr (3, [.ref a1, .ref (u1 1), .ref a2, .ref a3, .ref a4, .ref a5, .null, .int 0, .int 0, .null, .null])) :: (((((po_1 cI a1 u1) ++ wa_1 cI cZ a2 (u1 1) u2) ++ po_1 cI a3 u3) ++ wa_1 cI cZ a4 (u3 1) u4) ++ po_1 cI a5 u5))) (w1 := po_1 cI a6 u6) hP hD [71] [0, 1, 2, 3, 4, 5, 6, 7, 8, 9, 10, 11, 12, 13, 14, 15, 16, 17, 18, 19, 20, 21, 22, 23, 24, 25, 26, 27, 28, 29, 30, 31, 32, 33, 34, 35, 36, 37, 38, 39, 40, 41, 42, 43, 44, 45, 46, 47, 48, 49, 50, 51, 52, 53, 54, 55, 56, 57, 58, 59, 60, 61, 62, 63, 64, 65, 66, 67, 68, 69, 70] rfl rfl (by decide) (by decide) hk1 hFc hP1 hD1
  generalize H1 = H at hP hS ⊢
  have hP : va_P D vwCl ((h0, .inr (3, [.ref a1, .ref (u1 1), .ref a2, .ref a3, .ref a4, .ref a5, .null, .int 0, .int 0, .null, .null])) :: ((((((po_1 cI a1 u1) ++ wa_1 cI cZ a2 (u1 1) u2) ++ po_1 cI a3 u3) ++ wa_1 cI cZ a4 (u3 1) u4) ++ po_1 cI a5 u5) ++ po_1 cI a6 u6)) H := hP
  have hD : va_D A ((h0, .inr (3, [.ref a1, .ref (u1 1), .ref a2, .ref a3, .ref a4, .ref a5, .null, .int 0, .int 0, .null, .null])) :: ((((((po_1 cI a1 u1) ++ wa_1 cI cZ a2 (u1 1) u2) ++ po_1 cI a3 u3) ++ wa_1 cI cZ a4 (u3 1) u4) ++ po_1 cI a5 u5) ++ po_1 cI a6 u6)) := hD
  refine va_putF (D := D) (ci := 3) (v := .ref a6) (ty := .object "FairRates$Post") (C := RX3) (T := TX3) (N := 11) hx hb hts iX3 tyX3 tyX3_ok nmX3 hown hK hP hD hS 0 rfl rfl 6 (by decide) (hts _ wfl_X3_39) (fun _ h9 => h9) rfl hin rfl (by decide +kernel) rfl rfl (Nat.le_of_ble_eq_true rfl) (th_da dtX3_init 41 rfl) (fun H locs hP hD hS => ?_)
  have hP : va_P D vwCl ((h0, .inr (3, [.ref a1, .ref (u1 1), .ref a2, .ref a3, .ref a4, .ref a5, .ref a6, .int 0, .int 0, .null, .null])) :: ((((((po_1 cI a1 u1) ++ wa_1 cI cZ a2 (u1 1) u2) ++ po_1 cI a3 u3) ++ wa_1 cI cZ a4 (u3 1) u4) ++ po_1 cI a5 u5) ++ po_1 cI a6 u6)) H := hP
  have hD : va_D A ((h0, .inr (3, [.ref a1, .ref (u1 1), .ref a2, .ref a3, .ref a4, .ref a5, .ref a6, .int 0, .int 0, .null, .null])) :: ((((((po_1 cI a1 u1) ++ wa_1 cI cZ a2 (u1 1) u2) ++ po_1 cI a3 u3) ++ wa_1 cI cZ a4 (u3 1) u4) ++ po_1 cI a5 u5) ++ po_1 cI a6 u6)) := hD
  refine lv_aload_n hx hb (th_da dtX3_init 42 rfl) rfl (lv_at hl 0 rfl) ?_
  refine lv_iconst (v := 5) hx hb (th_da dtX3_init 43 rfl) (by decide) ?_
  refine tn_newa (atype := .int) (ty := .int) (N' := 5) (a0 := (5, .inl (fun _ => 0))) hx hb (hts _ wai) rfl hcI hP hD hS hA (ar0 5) (by decide) (by decide) (by decide) (Nat.le_of_ble_eq_true rfl) (Nat.le_of_ble_eq_true rfl) (th_da dtX3_init 44 rfl) (fun b1 H hP hD hS => ?_)
  have hP : va_P D vwCl ((h0, .inr (3, [.ref a1, .ref (u1 1), .ref a2, .ref a3, .ref a4, .ref a5, .ref a6, .int 0, .int 0, .null, .null])) :: (((((((po_1 cI a1 u1) ++ wa_1 cI cZ a2 (u1 1) u2) ++ po_1 cI a3 u3) ++ wa_1 cI cZ a4 (u3 1) u4) ++ po_1 cI a5 u5) ++ po_1 cI a6 u6) ++ [(b1, .inl (cI, 5, .inl (fun _ => 0)))])) H := hP
  have hD : va_D A ((h0, .inr (3, [.ref a1, .ref (u1 1), .ref a2, .ref a3, .ref a4, .ref a5, .ref a6, .int 0, .int 0, .null, .null])) :: (((((((po_1 cI a1 u1) ++ wa_1 cI cZ a2 (u1 1) u2) ++ po_1 cI a3 u3) ++ wa_1 cI cZ a4 (u3 1) u4) ++ po_1 cI a5 u5) ++ po_1 cI a6 u6) ++ [(b1, .inl (cI, 5, .inl (fun _ => 0)))])) := hD
  refine va_putF (D := D) (ci := 3) (v := .ref b1) (ty := .array .int) (C := RX3) (T := TX3) (N := 11) hx hb hts iX3 tyX3 tyX3_ok nmX3 hown hK hP hD hS 0 rfl rfl 9 (by decide) (hts _ wfl_X3_42) (fun _ h9 => h9) rfl hin rfl (by decide +kernel) rfl rfl (Nat.le_of_ble_eq_true rfl) (th_da dtX3_init 45 rfl) (fun H locs hP hD hS => ?_)
  have hP : va_P D vwCl ((h0, .inr (3, [.ref a1, .ref (u1 1), .ref a2, .ref a3, .ref a4, .ref a5, .ref a6, .int 0, .int 0, .ref b1, .null])) :: (((((((po_1 cI a1 u1) ++ wa_1 cI cZ a2 (u1 1) u2) ++ po_1 cI a3 u3) ++ wa_1 cI cZ a4 (u3 1) u4) ++ po_1 cI a5 u5) ++ po_1 cI a6 u6) ++ [(b1, .inl (cI, 5, .inl (fun _ => 0)))])) H := hP
  have hD : va_D A ((h0, .inr (3, [.ref a1, .ref (u1 1), .ref a2, .ref a3, .ref a4, .ref a5, .ref a6, .int 0, .int 0, .ref b1, .null])) :: (((((((po_1 cI a1 u1) ++ wa_1 cI cZ a2 (u1 1) u2) ++ po_1 cI a3 u3) ++ wa_1 cI cZ a4 (u3 1) u4) ++ po_1 cI a5 u5) ++ po_1 cI a6 u6) ++ [(b1, .inl (cI, 5, .inl (fun _ => 0)))])) := hD
  refine lv_aload_n hx hb (th_da dtX3_init 46 rfl) rfl (lv_at hl 0 rfl) ?_
  refine lv_bipush (v := 21) hx hb (th_da dtX3_init 47 rfl) (by decide) ?_
  refine tn_newa (atype := .int) (ty := .int) (N' := 21) (a0 := (21, .inl (fun _ => 0))) hx hb (hts _ wai) rfl hcI hP hD hS hA (ar0 21) (by decide) (by decide) (by decide) (Nat.le_of_ble_eq_true rfl) (Nat.le_of_ble_eq_true rfl) (th_da dtX3_init 48 rfl) (fun b2 H hP hD hS => ?_)
  have hP : va_P D vwCl ((h0, .inr (3, [.ref a1, .ref (u1 1), .ref a2, .ref a3, .ref a4, .ref a5, .ref a6, .int 0, .int 0, .ref b1, .null])) :: ((((((((po_1 cI a1 u1) ++ wa_1 cI cZ a2 (u1 1) u2) ++ po_1 cI a3 u3) ++ wa_1 cI cZ a4 (u3 1) u4) ++ po_1 cI a5 u5) ++ po_1 cI a6 u6) ++ [(b1, .inl (cI, 5, .inl (fun _ => 0)))]) ++ [(b2, .inl (cI, 21, .inl (fun _ => 0)))])) H := hP
  have hD : va_D A ((h0, .inr (3, [.ref a1, .ref (u1 1), .ref a2, .ref a3, .ref a4, .ref a5, .ref a6, .int 0, .int 0, .ref b1, .null])) :: ((((((((po_1 cI a1 u1) ++ wa_1 cI cZ a2 (u1 1) u2) ++ po_1 cI a3 u3) ++ wa_1 cI cZ a4 (u3 1) u4) ++ po_1 cI a5 u5) ++ po_1 cI a6 u6) ++ [(b1, .inl (cI, 5, .inl (fun _ => 0)))]) ++ [(b2, .inl (cI, 21, .inl (fun _ => 0)))])) := hD
  refine va_putF (D := D) (ci := 3) (v := .ref b2) (ty := .array .int) (C := RX3) (T := TX3) (N := 11) hx hb hts iX3 tyX3 tyX3_ok nmX3 hown hK hP hD hS 0 rfl rfl 10 (by decide) (hts _ wfl_X3_46) (fun _ h9 => h9) rfl hin rfl (by decide +kernel) rfl rfl (Nat.le_of_ble_eq_true rfl) (th_da dtX3_init 49 rfl) (fun H locs hP hD hS => ?_)
  have hP : va_P D vwCl ((h0, .inr (3, [.ref a1, .ref (u1 1), .ref a2, .ref a3, .ref a4, .ref a5, .ref a6, .int 0, .int 0, .ref b1, .ref b2])) :: ((((((((po_1 cI a1 u1) ++ wa_1 cI cZ a2 (u1 1) u2) ++ po_1 cI a3 u3) ++ wa_1 cI cZ a4 (u3 1) u4) ++ po_1 cI a5 u5) ++ po_1 cI a6 u6) ++ [(b1, .inl (cI, 5, .inl (fun _ => 0)))]) ++ [(b2, .inl (cI, 21, .inl (fun _ => 0)))])) H := hP
  have hD : va_D A ((h0, .inr (3, [.ref a1, .ref (u1 1), .ref a2, .ref a3, .ref a4, .ref a5, .ref a6, .int 0, .int 0, .ref b1, .ref b2])) :: ((((((((po_1 cI a1 u1) ++ wa_1 cI cZ a2 (u1 1) u2) ++ po_1 cI a3 u3) ++ wa_1 cI cZ a4 (u3 1) u4) ++ po_1 cI a5 u5) ++ po_1 cI a6 u6) ++ [(b1, .inl (cI, 5, .inl (fun _ => 0)))]) ++ [(b2, .inl (cI, 21, .inl (fun _ => 0)))])) := hD
  exact W.vret hx hb hr (fun t ht hW => ⟨⟨fun i => [fun k => [h0, a1, a2, a3, a4, a5, a6, b1, b2].getD k 0, u1, u2, u3, u4, u5, u6].getD i (fun _ => 0), rfl, trivial, by rw [ht]; exact hP, hD⟩, hS.F ht⟩) hS.2.2 (th_da dtX3_init 50 rfl)
