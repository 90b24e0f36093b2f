/-! ===== the law's start ===== -/
section
variable {D : va_G} {cl : List vw_C} {a b : va_W} {H : Heap} {A : Nat → Prop}
theorem va_P.le (h : va_P D cl (a ++ b) H) : va_P D cl a H := fun k q hk => h k q (by rw [List.getElem?_append_left (List.getElem?_eq_some_iff.mp hk).1]; exact hk)
theorem va_ri {k : Nat} {q : Nat × va_E} (hk : b[k]? = some q) : (a ++ b)[a.length + k]? = some q := by
  rw [List.getElem?_append_right (by omega), show a.length + k - a.length = k by omega]
  exact hk
theorem va_P.ri (h : va_P D cl (a ++ b) H) : va_P D cl b H := fun k q hk => h (a.length + k) q (va_ri hk)
theorem va_D.le (h : va_D A (a ++ b)) : va_D A a := ⟨fun i j x y hx hy => h.1 i j x y (by rw [List.getElem?_append_left (List.getElem?_eq_some_iff.mp hx).1]; exact hx) (by rw [List.getElem?_append_left (List.getElem?_eq_some_iff.mp hy).1]; exact hy), fun k q hk => h.2 k q (by rw [List.getElem?_append_left (List.getElem?_eq_some_iff.mp hk).1]; exact hk)⟩
theorem va_D.ri (h : va_D A (a ++ b)) : va_D A b := ⟨fun i j x y hx hy hxy => by
  have := h.1 (a.length + i) (a.length + j) x y (va_ri hx) (va_ri hy) hxy
  omega, fun k q hk => h.2 (a.length + k) q (va_ri hk)⟩
theorem va_D.xx (h : va_D A (a ++ b)) {i j : Nat} {x y : Nat × va_E} (hx : a[i]? = some x) (hy : b[j]? = some y) : x.1 ≠ y.1 := by
  intro hxy
  have hi := (List.getElem?_eq_some_iff.mp hx).1
  have := h.1 i (a.length + j) x y (by rw [List.getElem?_append_left hi]; exact hx) (va_ri hy) hxy
  omega
end
theorem lw_m1 {w : Cond} (i : Nat) (h : tables_1_1[i]? = some w) : w ∈ lw_tbl := List.mem_append_right _ (List.mem_append_left _ (List.mem_of_getElem? h))
theorem lw_m2 {w : Cond} (i : Nat) (h : tables_1_2[i]? = some w) : w ∈ lw_tbl := List.mem_append_right _ (List.mem_append_right _ (List.mem_append_left _ (List.mem_of_getElem? h)))
theorem lw_m4 {w : Cond} (i : Nat) (h : tables_1_4[i]? = some w) : w ∈ lw_tbl := List.mem_append_right _ (List.mem_append_right _ (List.mem_append_right _ (List.mem_append_right _ (List.mem_append_left _ (List.mem_of_getElem? h)))))
theorem wk_n1 : Cond.methodLinkNest RX1 11 yX0_init "FairRates" ∈ lw_tbl := lw_m1 30 (by decide +kernel)
theorem wk_n2 : Cond.methodLinkNest RX1 163 yX3_isLink "FairRates" ∈ lw_tbl := lw_m2 140 (by decide +kernel)
theorem wk_s : Cond.stringRef RX3 167 "no such flow" ∈ lw_tbl := lw_m4 84 (by decide +kernel)
theorem wk_c : Cond.castable xn_N xn_N ∈ lw_tbl := lw_m4 47 (by decide +kernel)
theorem wk_d1 : Cond.declares (Bundle.initS xn_R) ∈ lw_tbl := lw_m4 49 (by decide +kernel)
theorem wk_d2 : Cond.declares (Bundle.initS xn_E) ∈ lw_tbl := lw_m4 51 (by decide +kernel)
theorem wk_d3 : Cond.declares (Bundle.initS xn_T) ∈ lw_tbl := lw_m4 53 (by decide +kernel)
theorem wk_l1 : Cond.laysStatic Bundle.tN "UNASSIGNED_STACK" Bundle.steD ∈ lw_tbl := lw_m4 72 (by decide +kernel)
theorem wk_l2 : Cond.laysStatic Bundle.tN "SUPPRESSED_SENTINEL" Bundle.listD ∈ lw_tbl := lw_m4 74 (by decide +kernel)
theorem wk_i : Cond.initialized Bundle.tN ∈ th_T := th_in1 10 (by decide +kernel) rfl
theorem waj : Cond.arrayClass .long ∈ th_T := th_in6 139 (by decide +kernel) rfl
theorem wis_X3 : Cond.instantiable RX3 11 ∈ th_T := th_in1 15 (by decide +kernel) rfl
theorem wis_X4 : Cond.instantiable RX4 18 ∈ th_T := th_in4 129 (by decide +kernel) rfl
theorem wcl_L8 : Cond.classLink RL 8 RX3 ∈ th_T := th_in1 14 (by decide +kernel) rfl
theorem wcl_L22 : Cond.classLink RL 22 RX4 ∈ th_T := th_in4 128 (by decide +kernel) rfl
theorem wml_L21 : Cond.methodLink RL 21 yX3_init ∈ th_T := th_in1 16 (by decide +kernel) rfl
theorem wim_X3_init : Cond.instanceMethod yX3_init ∈ th_T := th_in1 17 (by decide +kernel) rfl
theorem wcd_X3_init : Cond.code yX3_init cX3_init 1 none ∈ th_T := th_in1 18 (by decide +kernel) rfl
theorem hd_X3_init : yX3_init.cls ≠ "java/lang/invoke/MethodHandle" ∧ yX3_init.cls ≠ "java/lang/invoke/VarHandle" ∧ (parseMethodDescriptor yX3_init.desc).map (fun d => d.parameters.length) = some 0 := by decide +kernel
theorem wml_L24 : Cond.methodLink RL 24 yX4_init ∈ th_T := th_in4 130 (by decide +kernel) rfl
theorem wim_X4_init : Cond.instanceMethod yX4_init ∈ th_T := th_in4 131 (by decide +kernel) rfl
theorem wcd_X4_init : Cond.code yX4_init cX4_init 1 none ∈ th_T := th_in4 132 (by decide +kernel) rfl
theorem hd_X4_init : yX4_init.cls ≠ "java/lang/invoke/MethodHandle" ∧ yX4_init.cls ≠ "java/lang/invoke/VarHandle" ∧ (parseMethodDescriptor yX4_init.desc).map (fun d => d.parameters.length) = some 0 := by decide +kernel
theorem dL_start : th_dec code [(0, .new 8, 3), (3, .dup, 1), (4, .invokespecial 21, 3), (7, .astore_n 1, 1), (8, .new 22, 3), (11, .dup, 1), (12, .invokespecial 24, 3), (15, .astore_n 2, 1), (16, .iconst 1, 1), (17, .newarray .long, 2), (19, .astore_n 3, 1), (20, .iconst 0, 1), (21, .istore 4, 2)] = true := by decide +kernel
/-- the classes of the tables, by their numbers -/
theorem lw_known {args : Array Value} {s : State} (htT : ∀ w ∈ th_T, w.before args s = true) : ∃ D : va_G, ∀ (k : Nat) (q : vw_C), vwCl[k]? = some q → u_Kn s q.1 q.2.1 q.2.2 (D.1 k) (D.2 k) := by
  obtain ⟨c0, i0, k0⟩ := u_known (C := RX0) (T := TX0) (N := 9) (n := 9) htT iX0 (htT _ wis_X0)
  obtain ⟨c1, i1, k1⟩ := u_known (C := RX1) (T := TX1) (N := 16) (n := 16) htT iX1 (htT _ wis_X1)
  obtain ⟨c2, i2, k2⟩ := u_known (C := RX2) (T := TX2) (N := 10) (n := 10) htT iX2 (htT _ wis_X2)
  obtain ⟨c3, i3, k3⟩ := u_known (C := RX3) (T := TX3) (N := 11) (n := 11) htT iX3 (htT _ wis_X3)
  obtain ⟨c4, i4, k4⟩ := u_known (C := RX4) (T := TX4) (N := 18) (n := 18) htT iX4 (htT _ wis_X4)
  refine ⟨(fun k => if k = 0 then c0 else if k = 1 then c1 else if k = 2 then c2 else if k = 3 then c3 else c4, fun k => if k = 0 then i0 else if k = 1 then i1 else if k = 2 then i2 else if k = 3 then i3 else i4), ?_⟩
  intro k q hq
  match k, hq with
  | 0, hq => cases hq; exact k0
  | 1, hq => cases hq; exact k1
  | 2, hq => cases hq; exact k2
  | 3, hq => cases hq; exact k3
  | 4, hq => cases hq; exact k4
  | k + 5, hq => simp [vwCl] at hq
theorem lw_arr {args : Array Value} {s : State} {ty : FieldType} (h : (Cond.arrayClass ty).before args s = true) : ∃ cA : ClassId, s.vm.findClass ("[" ++ ty.toString) = some cA ∧ ArrOfT s cA ty := by
  obtain ⟨cA, kA, comp, h1, h2, h3⟩ := Cond.arrayClass_spec h
  exact ⟨cA, h1, fun n z => ⟨fun k h => (by cases h), kA, h2, comp, h3⟩⟩
theorem lw_ex {b : Nat} {s : State} (hts : ∀ w ∈ lw_tbl, w.before #[Value.ref b] s = true) (hgv : (Jvm.Cond.and given_1 narrow_1).before #[Value.ref b] s = true) : ∃ sa, ex_E sa (lw_A s) s s.heap := by
  have hs := flat_of_before _ hgv
  obtain ⟨sa, -, -, -, ha, -⟩ := Cond.exactly_spec (hs (Cond.exactly (.string "FairRates" 167) "java/lang/String") (by decide +kernel))
  have hi : (Cond.initialized Bundle.tN).before #[Value.ref b] s = true := hts _ (List.mem_filter.mp wk_i).1
  exact ⟨sa, vk_R.of (hts _ wk_s) ha, va_Nw.of rfl (hts _ wk_c), ⟨va_Nw.of rfl (hts _ wk_d1), va_Nw.of rfl (hts _ wk_d2), va_Nw.of rfl (hts _ wk_d3)⟩, vx_Zqof (hts _ wk_l1) hi (hs (Cond.isRef (.static Bundle.tN "UNASSIGNED_STACK" Bundle.steD)) (by decide +kernel)) (fun a h => Nat.not_le.mpr h), vx_Zqof (hts _ wk_l2) hi (hs (Cond.isRef (.static Bundle.tN "SUPPRESSED_SENTINEL" Bundle.listD)) (by decide +kernel)) (fun a h => Nat.not_le.mpr h)⟩
set_option maxHeartbeats 4000000 in
set_option maxRecDepth 100000 in
/-- from the entry, for every script of at most 3072 ints, the law comes to its end with true -/
theorem whole_start {p : Program} {e : Env} {s : State} {m : MethodId} {below : List Frame} {meth : Method} {c : Code} (l : Launch) (hflags : l.flags = flags0) {b L : Nat} {xs : Nat → Int32} (hL : L ≤ 3072) (C0 : lw_At p s m meth c b L xs) : W p l e room_1 s m #[Value.ref b] below meth c s.heap [] 0 0 (lw_Z below #[Value.ref b] s) (entryFrame m ([Value.ref b] : List Value).toArray 7) := by
  obtain ⟨hx, hb, hr, hml, hown, hts, hX, hbl, hlocks, hgv⟩ := id C0
  have hlt : l.stackTraces = false := by
    unfold Launch.stackTraces
    rw [hflags]
    decide +kernel
  have hown : s.vm.findClass RL = some m.cls := hown
  have hA : ∀ q : Nat, s.heap.size ≤ q → lw_A s q := fun _ h => h
  have htT : ∀ w ∈ th_T, w.before #[Value.ref b] s = true := fun w hw => hts w (List.mem_filter.mp hw).1
  obtain ⟨D, hKc⟩ := lw_known htT
  obtain ⟨cI, fI, aI⟩ := lw_arr (htT _ wai)
  obtain ⟨cZ, fZ, aZ⟩ := lw_arr (htT _ waz)
  obtain ⟨cJ, fJ, aJ⟩ := lw_arr (htT _ waj)
  obtain ⟨sa, hE⟩ := lw_ex hts hgv
  have hK : va_K D vwCl (hp_ty cI cZ cJ) s := by
    refine ⟨hKc, fun k q hq => ?_⟩
    match k, hq with
    | 0, hq => cases hq; exact ⟨aI, fI⟩
    | 1, hq => cases hq; exact ⟨aZ, fZ⟩
    | 2, hq => cases hq; exact ⟨aJ, fJ⟩
    | k + 3, hq => simp at hq
  have hK2 : va_K D vwCl [(cI, .int), (cZ, .boolean)] s := hK.sub [0, 1] rfl
  have hcI : s.vm.findClass "[I" = some cI := va_nm_int fI
  have hcZ : s.vm.findClass "[Z" = some cZ := va_nm_boolean fZ
  have hN1 : va_Nw (.methodLinkNest RX1 11 yX0_init "FairRates") s := va_Nw.of rfl (hts _ wk_n1)
  have hN2 : th_NW s := va_Nw.of rfl (hts _ wk_n2)
  have hS : va_S (lw_A s) s.heap s.heap [] := va_S.rf
  have hP : va_P D vwCl [] s.heap := fun k q h => by simp at h
  have hD : va_D (lw_A s) [] := ⟨fun i j p q h => by simp at h, fun k q h => by simp at h⟩
  have hl := lv_entry ([.ref b]) (n := 7) (Nat.le_of_ble_eq_true rfl)
  rw [lg_entry_eq]
  generalize (lg_sl ([.ref b]) ++ List.replicate (7 - (lg_sl ([.ref b])).length) Slot.unset).toArray = ls at hl ⊢
  have hl : lv_has ls 7 [(0, .ref b)] := hl
  refine va_new (ci := 3) (fs := [.null, .null, .null, .null, .null, .null, .null, .int 0, .int 0, .null, .null]) (C := RX3) (T := TX3) (N := 11) hx hb htT iX3 tyX3 tyX3_ok hown (htT _ wcl_L8) (htT _ wis_X3) (htT _ w9in_X3) hK hP hD hS hA rfl (by decide) (Nat.le_of_ble_eq_true rfl) (Nat.le_of_ble_eq_true rfl) (th_da dL_start 0 rfl) (fun q0 H hP hD hS => ?_)
  have hP : va_P D vwCl (fr_0 q0) H := hP
  have hD : va_D (lw_A s) (fr_0 q0) := hD
  refine lv_dup hx hb (th_da dL_start 1 rfl) rfl ?_
  have hFc : ∀ q, va_A (fr_0 q0) H.size q → lw_A s q := by
    rintro q (⟨k, e, hk⟩ | hk)
    · exact hD.2 k _ hk
    · exact Nat.le_trans hS.1 hk
  refine va_callv (va_runI (As := []) (rest := [.ref q0]) ⟨hx, hb, hml, hown, htT⟩ (c_Rates_init l D cI cZ q0 H.size) ⟨callB_of 0 htT (th_good wcd_X3_init) rfl rfl rfl (htT _ w9in_X3) (htT _ wml_L21) hd_X3_init ⟨Nat.le_of_ble_eq_true rfl, Nat.le_of_ble_eq_true rfl⟩, rfl, htT _ wim_X3_init⟩ ⟨fun a U g mk q => by obtain ⟨q0, q1, qP, qK, qD, qc, qz, qn1, qn2⟩ := q; exact ⟨q0, q1, qP, va_K.moved (u := U) (U := U.calling g mk a) (Vm.Alike.refl U.vm) qK, qD, qc, qz, va_Nw.same rfl rfl qn1, va_Nw.same rfl rfl qn2⟩, fun U hU hW => ⟨rfl, by rw [hU], by rw [hU]; exact hP, va_K.moved hW.alike hK2, hD.weaken (fun _ _ _ _ => trivial), (by rw [← hcI]; exact (hW.alike.findClass _ _)), (by rw [← hcZ]; exact (hW.alike.findClass _ _)), va_Nw.warmM hW hN1, va_Nw.warmM hW hN2⟩⟩ rfl rfl hl.1 rfl (lv_room (Nat.le_of_ble_eq_true rfl)) (th_da dL_start 2 rfl) ⟨Nat.le_of_ble_eq_true rfl, Nat.le_of_ble_eq_true rfl⟩) hS (fun q _ h => hFc q h) hFc (fun u t H1 locs ht hvm hw hB hz1 hk1 hS => ?_)
  obtain ⟨hP1, hD1⟩ := hB
  rw [ht, fr_W] at hP1
  rw [fr_W] at hD1
  have hD := hD1.weaken (fun _ _ _ z => hFc _ z)
  clear hP hD1 hk1 hz1 hFc hvm ht hw
  generalize hW1 : th_W cI cZ (fr_ad q0 u) LC fr_H = W1 at hP1 hD
  refine lv_astore_n (lv' := [(1, .ref q0), (0, .ref b)]) hx hb (th_da dL_start 3 rfl) rfl hl (by decide) rfl (fun ls hl => ?_)
  refine va_new (ci := 4) (fs := [.int 0, .null, .null, .null, .null, .null, .null, .null, .null, .null, .null, .null, .null, .int 0, .null, .int 0, .null, .long 0]) (C := RX4) (T := TX4) (N := 18) hx hb htT iX4 tyX4 tyX4_ok hown (htT _ wcl_L22) (htT _ wis_X4) (htT _ w9in_X4) hK hP1 hD hS hA rfl (by decide) (Nat.le_of_ble_eq_true rfl) (Nat.le_of_ble_eq_true rfl) (th_da dL_start 4 rfl) (fun q1 H hP hD hS => ?_)
  have hPc : va_P D vwCl (mo_0 q1) H := hP.ri
  have hDc : va_D (lw_A s) (mo_0 q1) := hD.ri
  refine lv_dup hx hb (th_da dL_start 5 rfl) rfl ?_
  have hFc : ∀ q, va_A (mo_0 q1) H.size q → lw_A s q := by
    rintro q (⟨k, e, hk⟩ | hk)
    · exact hDc.2 k _ hk
    · exact Nat.le_trans hS.1 hk
  refine va_callv (va_runI (As := []) (rest := [.ref q1]) ⟨hx, hb, hml, hown, htT⟩ (c_mo_init l D cI cZ q1 H.size) ⟨callB_of 0 htT (th_good wcd_X4_init) rfl rfl rfl (htT _ w9in_X4) (htT _ wml_L24) hd_X4_init ⟨Nat.le_of_ble_eq_true rfl, Nat.le_of_ble_eq_true rfl⟩, rfl, htT _ wim_X4_init⟩ ⟨fun a U g mk q => by obtain ⟨q0, q1, qP, qK, qD, qc, qz⟩ := q; exact ⟨q0, q1, qP, va_K.moved (u := U) (U := U.calling g mk a) (Vm.Alike.refl U.vm) qK, qD, qc, qz⟩, fun U hU hW => ⟨rfl, by rw [hU], by rw [hU]; exact hPc, va_K.moved hW.alike hK2, hDc.weaken (fun _ _ _ _ => trivial), (by rw [← hcI]; exact (hW.alike.findClass _ _)), (by rw [← hcZ]; exact (hW.alike.findClass _ _))⟩⟩ rfl rfl hl.1 rfl (lv_room (Nat.le_of_ble_eq_true rfl)) (th_da dL_start 6 rfl) ⟨Nat.le_of_ble_eq_true rfl, Nat.le_of_ble_eq_true rfl⟩) hS (fun q _ h => hFc q h) hFc (fun v t H1 locs1 ht hvm hw hB hz1 hk1 hS => ?_)
  obtain ⟨hP2, hD2⟩ := hB
  rw [ht, mo_W] at hP2
  rw [mo_W] at hD2
  have hP3 : va_P D vwCl W1 H1 := hP.le.kept (fun k x hx => hk1 x.1 ((hP.le k x hx).lt) (by
    rintro (⟨j, e, hj⟩ | hj)
    · exact hD.xx hx hj rfl
    · exact absurd ((hP.le k x hx).lt) (Nat.not_lt.mpr hj)))
  have hD3 : va_D (lw_A s) (W1 ++ th_W cI cZ (mo_ad q1 v) LM mo_H) := hD.le.app (hD2.weaken (fun _ _ _ z => hFc _ z)) (fun i j x y hx hy hxy => by
    rcases hD2.2 j y hy with ⟨k, e, hk⟩ | hk
    · exact hD.xx hx hk hxy
    · rw [← hxy] at hk
      exact absurd ((hP.le i x hx).lt) (Nat.not_lt.mpr hk))
  clear hP hD hD2 hk1 hz1 hFc hvm ht hw hPc hDc hP1
  generalize hW2 : th_W cI cZ (mo_ad q1 v) LM mo_H = W2 at hP2 hD3
  refine lv_astore_n (lv' := [(2, .ref q1), (1, .ref q0), (0, .ref b)]) hx hb (th_da dL_start 7 rfl) rfl hl (by decide) rfl (fun ls hl => ?_)
  refine lv_iconst (v := 1) hx hb (th_da dL_start 8 rfl) (by decide) ?_
  refine tn_newa (atype := .long) (ty := .long) (N' := 1) (a0 := (1, .inr (.inl (fun _ => 0)))) hx hb (htT _ waj) rfl fJ (hP3.app hP2) hD3 hS hA (fun _ => rfl) (by decide) (by decide) (by decide) (Nat.le_of_ble_eq_true rfl) (Nat.le_of_ble_eq_true rfl) (th_da dL_start 9 rfl) (fun qo H2 hP hD hS => ?_)
  refine lv_astore_n (lv' := [(3, .ref qo), (2, .ref q1), (1, .ref q0), (0, .ref b)]) hx hb (th_da dL_start 10 rfl) rfl hl (by decide) rfl (fun ls hl => ?_)
  refine lv_iconst (v := 0) hx hb (th_da dL_start 11 rfl) (by decide) ?_
  refine lv_istore (lv' := [(4, .int 0), (3, .ref qo), (2, .ref q1), (1, .ref q0), (0, .ref b)]) hx hb (th_da dL_start 12 rfl) hl (by decide) rfl (fun ls hl => ?_)
  have hO : va_P D vwCl (hp_o cJ qo 0) H2 := hP.ri
  have hA1 : ∀ i, i < 91 → W1[i]? = some (fr_ad q0 u i, th_E cI cZ (fr_ad q0 u) fr_H i (LC.getD i (.inl (0, false)))) := fun i hi => by
    rw [← hW1]
    exact th_W_at (by rw [List.getD_eq_getElem?_getD, List.getElem?_eq_getElem (by rw [LC_len]; exact hi)]; rfl)
  have hA2 : ∀ i, i < 15 → W2[i]? = some (mo_ad q1 v i, th_E cI cZ (mo_ad q1 v) mo_H i (LM.getD i (.inl (0, false)))) := fun i hi => by
    rw [← hW2]
    exact th_W_at (by rw [List.getD_eq_getElem?_getD, List.getElem?_eq_getElem (by rw [LM_len]; exact hi)]; rfl)
  have hin : ∀ {i : Nat} {x : Nat × va_E}, W1[i]? = some x → (W1 ++ W2)[i]? = some x := fun {i x} hx => by rw [List.getElem?_append_left (List.getElem?_eq_some_iff.mp hx).1]; exact hx
  have X : lw_X p s m meth c b L xs D cI cZ cJ (fr_ad q0 u) (mo_ad q1 v) qo sa := by
    refine ⟨C0, hK, ⟨?_, ?_⟩, ⟨fun i hi => ⟨?_, ?_⟩, fun i hi => ⟨?_, ?_⟩, fun i j hi hj => ?_⟩, ?_, hN2, hE⟩
    · have z := hD.le.le
      rw [← hW1] at z
      exact th_DD_of z
    · have z := hD.le.ri
      rw [← hW2] at z
      exact th_DD_of z
    · exact hD.le.le.2 i _ (hA1 i hi)
    · exact hD.xx (i := i) (j := 0) (hin (hA1 i hi)) rfl
    · exact hD.le.ri.2 i _ (hA2 i hi)
    · exact hD.xx (i := W1.length + i) (j := 0) (va_ri (hA2 i hi)) rfl
    · exact hD.le.xx (hA1 i hi) (hA2 j hj)
    · exact hD.ri.2 0 _ rfl
  have hJ : lw_J s D cI cZ cJ (fr_ad q0 u) (mo_ad q1 v) qo fr_H mo_H 0 H2 locs1 := ⟨by rw [hW1]; exact hP.le.le, by rw [hW2]; exact hP.le.ri, hO, hS⟩
  refine W.widen (k := 107) (n := 6145) (Nat.le_of_ble_eq_true rfl) (Nat.le_of_ble_eq_true rfl) ?_
  exact lw_loop X hlt hL 512 0 rfl fr_H mo_H 0 fr_start H2 locs1 ls hJ (lv_sub hl [4, 3, 2, 1, 0] rfl)
