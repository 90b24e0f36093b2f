/-! ===== the law's helpers flow, fair, proof: try, and the catch of 'no such flow' ===== -/
theorem va_S.mono {A B : Nat → Prop} {H0 H : Heap} {locs : List Loc} (h : va_S A H0 H locs) (hAB : ∀ q, A q → B q) : va_S B H0 H locs := ⟨h.1, fun q h1 h2 => h.2.1 q h1 (fun z => h2 (hAB q z)), fun q hq => hAB _ (h.2.2 q hq)⟩
abbrev hp_o (cJ : ClassId) (qo : Nat) (o : Int64) : va_W := [(qo, .inl (cJ, 1, .inr (.inl (fun _ => o))))]
def hp_A (ad : Nat → Nat) (qo sz : Nat) : Nat → Prop := fun q => th_A ad LC sz q ∨ q = qo
abbrev hp_ty (cI cZ cJ : ClassId) : List (ClassId × FieldType) := [(cI, .int), (cZ, .boolean), (cJ, .long)]
def hp_P (D : va_G) (cI cZ cJ : ClassId) (ad : Nat → Nat) (qo sz sa : Nat) (h : th_H) (o : Int64) (x1 x2 : Int32) : Array Value → State → Prop := fun v U => v = ([.ref (ad 0), .int x1, .int x2, .ref qo] : List Value).toArray ∧ U.heap.size = sz ∧ va_P D vwCl (th_W cI cZ ad LC h) U.heap ∧ va_P D vwCl (hp_o cJ qo o) U.heap ∧ va_K D vwCl (hp_ty cI cZ cJ) U ∧ th_DD ad LC ∧ (∀ i, i < 91 → ad i ≠ qo) ∧ th_NW U ∧ ex_E sa (hp_A ad qo sz) U U.heap
def hp_Q (D : va_G) (cI cZ cJ : ClassId) (ad : Nat → Nat) (qo sz : Nat) (h : th_H) (o : Int64) (k : Int32) : Array Value → State → Outcome → State → Prop := fun _ st oc t => (oc = .returned (some (.int k)) ∧ va_P D vwCl (th_W cI cZ ad LC h) t.heap ∧ va_P D vwCl (hp_o cJ qo o) t.heap) ∧ va_F (hp_A ad qo sz) st t
theorem hp_blind {D : va_G} {cI cZ cJ : ClassId} {ad : Nat → Nat} {qo sz sa : Nat} {h : th_H} {o : Int64} {x1 x2 : Int32} : FrameBlind (hp_P D cI cZ cJ ad qo sz sa h o x1 x2) := by
  intro a U g mk q
  obtain ⟨q0, q1, qP, qO, qK, qD, qa, qN, qE⟩ := q
  exact ⟨q0, q1, qP, qO, va_K.moved (u := U) (U := U.calling g mk a) (Vm.Alike.refl U.vm) qK, qD, qa, va_Nw.same rfl rfl qN, ex_E.same (u := U) (U := U.calling g mk a) rfl qE⟩
theorem LC_len : LC.length = 91 := rfl
theorem hp_away {cI cZ : ClassId} {ad : Nat → Nat} {h : th_H} {qo : Nat} (ha : ∀ i, i < 91 → ad i ≠ qo) {k : Nat} {q : Nat × va_E} (hk : (th_W cI cZ ad LC h)[k]? = some q) : q.1 ≠ qo := by
  obtain ⟨h1, h2⟩ := th_W_of hk
  rw [h2]
  exact ha k (by rw [LC_len] at h1; exact h1)
theorem hp_not {ad : Nat → Nat} {qo sz : Nat} (ha : ∀ i, i < 91 → ad i ≠ qo) (hq : qo < sz) : ¬ th_A ad LC sz qo := by
  rintro (⟨i, h1, h2⟩ | h1)
  · exact ha i (by rw [LC_len] at h1; exact h1) h2.symm
  · omega
section
variable {p : Program} {l : Launch} {e : Env} {R : Room} {s : State} {m : MethodId} {args : Array Value} {below : List Frame} {meth : Method} {c : Code} {H H0 : Heap} {locs : List Loc} {cells slots : Nat} {Q : State → Prop} {cc : ByteArray} {pc : Nat} {ls : Array Slot} {rest : List Value}
/-- a store into the law's own row of one long, beside other things -/
theorem hp_las {D : va_G} {cJ : ClassId} {qo : Nat} {o x : Int64} {A : Nat → Prop} {tys : List (ClassId × FieldType)} {wa : va_W} (hexec : p.tables.exec = Jvm.exec) (hb : c.code = cc) (hK : va_K D vwCl tys s) (t0 : Nat) (ht : tys[t0]? = some (cJ, .long)) (hP : va_P D vwCl wa H) (hO : va_P D vwCl (hp_o cJ qo o) H) (hDw : va_D A wa) (ha : ∀ (k : Nat) (q : Nat × va_E), wa[k]? = some q → q.1 ≠ qo) (hq : A qo) (hS : va_S A H0 H locs) (hdg : decode cc pc = .ok (.lastore, 1))
    (kk : ∀ (H1 : Heap) (locs1 : List Loc), va_P D vwCl wa H1 → va_P D vwCl (hp_o cJ qo x) H1 → va_S A H0 H1 locs1 → W p l e R s m args below meth c H1 locs1 cells slots Q (F0 m (pc + 1) ls rest)) : W p l e R s m args below meth c H locs cells slots Q (F0 m pc ls (.long x :: .int 0 :: .ref qo :: rest)) := by
  have hDo : va_D A (hp_o cJ qo o) := by
    refine ⟨fun i j p q hi hj _ => ?_, fun k q hk => ?_⟩
    · have h1 := (List.getElem?_eq_some_iff.mp hi).1
      have h2 := (List.getElem?_eq_some_iff.mp hj).1
      simp at h1 h2
      omega
    · have h1 := (List.getElem?_eq_some_iff.mp hk).1
      simp at h1
      rw [h1] at hk
      cases hk
      exact hq
  have hD2 : va_D A (hp_o cJ qo o ++ wa) := hDo.app hDw (fun i j x y hx hy hxy => by
    have h1 := (List.getElem?_eq_some_iff.mp hx).1
    simp at h1
    rw [h1] at hx
    cases hx
    exact ha j y hy hxy.symm)
  refine va_last (ws := hp_o cJ qo o ++ wa) hexec hb hK (hO.app hP) hD2 hS 0 t0 rfl ht (by unfold vp_in; decide) hdg (fun H1 locs1 hP1 _ hS1 => ?_)
  have hx : va_P D vwCl ((qo, .inl (cJ, 1, .inr (.inl (vp_updL (fun _ => o) (Int32.toNatClampNeg 0) x)))) :: wa) H1 := hP1
  refine kk H1 locs1 (fun k q hk => hx (k + 1) q hk) (fun k q hk => ?_) hS1
  have h1 := (List.getElem?_eq_some_iff.mp hk).1
  simp at h1
  subst h1
  cases hk
  have h0 : H1[qo]? = some (vp_cell cJ (1, .inr (.inl (vp_updL (fun _ => o) (Int32.toNatClampNeg 0) x)))) := hx 0 _ rfl
  show H1[qo]? = some (vp_cell cJ (1, .inr (.inl (fun _ => x))))
  rw [h0]
  have e : (Array.ofFn (n := 1) fun j => Value.long (vp_updL (fun _ => o) (Int32.toNatClampNeg 0) x j.val)) = Array.ofFn (n := 1) fun _ => Value.long x := by
    congr 1
    funext j
    have hj : j.val = Int32.toNatClampNeg 0 := (show j.val = 0 by omega).trans rfl
    simp [vp_updL, hj]
  exact congrArg (fun z => some ({ cls := cJ, slots := z, vm := .none } : Cell)) e
theorem hp_last {D : va_G} {cI cZ cJ : ClassId} {ad : Nat → Nat} {qo : Nat} {h : th_H} {o x : Int64} {A : Nat → Prop} {tys : List (ClassId × FieldType)} (hexec : p.tables.exec = Jvm.exec) (hb : c.code = cc) (hK : va_K D vwCl tys s) (t0 : Nat) (ht : tys[t0]? = some (cJ, .long)) (hP : va_P D vwCl (th_W cI cZ ad LC h) H) (hO : va_P D vwCl (hp_o cJ qo o) H) (hD : th_DD ad LC) (ha : ∀ i, i < 91 → ad i ≠ qo) (hA : ∀ i, i < 91 → A (ad i)) (hq : A qo) (hS : va_S A H0 H locs) (hdg : decode cc pc = .ok (.lastore, 1))
    (kk : ∀ (H1 : Heap) (locs1 : List Loc), va_P D vwCl (th_W cI cZ ad LC h) H1 → va_P D vwCl (hp_o cJ qo x) H1 → va_S A H0 H1 locs1 → W p l e R s m args below meth c H1 locs1 cells slots Q (F0 m (pc + 1) ls rest)) : W p l e R s m args below meth c H locs cells slots Q (F0 m pc ls (.long x :: .int 0 :: .ref qo :: rest)) := by
  have hDw : va_D A (th_W cI cZ ad LC h) := (th_D (sz := 0) hD).weaken (fun k q hk _ => by
    obtain ⟨h1, h2⟩ := th_W_of hk
    rw [h2]
    exact hA k (by rw [LC_len] at h1; exact h1))
  exact hp_las hexec hb hK t0 ht hP hO hDw (fun k q hk => hp_away ha hk) hq hS hdg kk
end
theorem hp_w : Cond.classLink RL 13 xn_N ∈ th_T := th_in4 40 (by decide +kernel) rfl
/-- a call of the class's method by its contract, from any frame: what else stands is kept -/
theorem hp_call {p : Program} {l : Launch} {e : Env} {R : Room} {s : State} {m : MethodId} {args : Array Value} {below : List Frame} {meth : Method} {c : Code} {D : va_G} {cI cZ : ClassId} {ad : Nat → Nat} {L : th_L} {nL : Nat} {own : String} {cc : ByteArray} {rt : Option FieldType} {pc : Nat} (X : th_X p s m args meth c D cI cZ ad L nL own cc rt) {H : Heap} {locs : List Loc} {cells slots : Nat} {a : Array Slot} {st0 rest : List Value} {a1 : Array Value} {r1 : Option Value} {h1 : th_H} {Q : State → Prop} {A : Nat → Prop} {H0 : Heap} (hA : ∀ q, th_A ad L H.size q → A q) (hS : va_S A H0 H locs) (hr : va_Run p l e R s m args below meth c H locs cells slots 0 0 (F0 m pc a st0) rest (th_QP D cI cZ ad L H.size r1 h1 a1) (th_A ad L H.size))
    (kk : ∀ (H1 : Heap) (locs1 : List Loc), va_P D vwCl (th_W cI cZ ad L h1) H1 → (∀ q : Nat, q < H.size → ¬ th_A ad L H.size q → H1[q]? = H[q]?) → va_S A H0 H1 locs1 → W p l e R s m args below meth c H1 locs1 cells slots Q (F0 m (pc + 3) a ((r1.map (th_cv ad)).toList ++ rest))) : W p l e R s m args below meth c H locs cells slots Q (F0 m pc a st0) := by
  intro T hT Y
  obtain ⟨v, st₀, t, T', L', h0, Y', hL, e1, e2, ⟨⟨hv, hp⟩, hz, hk⟩, sx⟩ := hr T hT Y
  have hv : v = r1.map (th_cv ad) := by injection hv
  subst hv
  rw [h0] at hz hk
  obtain ⟨t2, q1, q2⟩ := kk T'.heap (locs ++ L') (by rw [e1]; exact hp) (fun q g1 g2 => by rw [e1]; exact hk q g1 g2)
    ⟨Nat.le_trans hS.1 (by rw [e1]; exact hz), fun q g1 g2 => by rw [e1, hk q (Nat.lt_of_lt_of_le g1 hS.1) (fun z => g2 (hA q z))]; exact hS.2.1 q g1 g2, fun q hq => by
      rcases List.mem_append.mp hq with z | z
      · exact hS.2.2 q z
      · exact hA _ (hL q z)⟩ T' rfl Y'
  exact ⟨t2, sx t2 q1, q2⟩
def hp_tb (idx : Nat) : List (Nat × Instr × Nat) := [(0, .aload_n 3, 1), (1, .iconst 0, 1), (2, .aload_n 0, 1), (3, .iload_n 1, 1), (4, .iload_n 2, 1), (5, .invokevirtual idx, 3), (8, .i2l, 1), (9, .lastore, 1), (10, .goto 7, 3), (13, .astore 4, 2), (15, .iconst 1, 1), (16, .ireturn, 1), (17, .iconst 0, 1), (18, .ireturn, 1)]
abbrev hp_h : List (Nat × Nat × Nat × Nat) := [(0, 10, 13, 13)]
set_option maxHeartbeats 4000000 in
set_option maxRecDepth 100000 in
/-- the helper where the class answers -/
theorem hp_ret {yH y : MethodName} {cH bytes : ByteArray} {maxL idx F N : Nat} (hyH : plainName yH.cls = true) (hoH : yH.cls = RL) (dt : th_dec cH (hp_tb idx) = true) (hc : Cond.code y bytes maxL (some .int) ∈ th_T) (w0 : Cond.methodLink RL idx y ∈ th_T) (w1 : Cond.instanceMethod y ∈ th_T) (w2 : Cond.selects RX3 y y ∈ th_T) (w3 : Cond.initialized y.cls ∈ th_T) (hd : y.cls ≠ "java/lang/invoke/MethodHandle" ∧ y.cls ≠ "java/lang/invoke/VarHandle" ∧ (parseMethodDescriptor y.desc).map (fun d => d.parameters.length) = some 2) (hR : F + 1 ≤ 7 ∧ 8 + (maxL + 11) + N ≤ 150)
    (l : Launch) (D : va_G) (cI cZ cJ : ClassId) (ad : Nat → Nat) (qo sz sa : Nat) (x1 x2 : Int32) (h : th_H) (o : Int64) (r : Int32) (h2 : th_H) (hM : th_MI l LC y bytes maxL (some .int) F N [.ref 0, .int x1, .int x2] h (some (.int r)) h2) :
    Met l yH (Cond.codeWith yH cH 5 (some .int) hp_h :: th_T) { frames := 7, cells := 1, slots := 6, locals := 150 } (hp_P D cI cZ cJ ad qo sz sa h o x1 x2) (hp_Q D cI cZ cJ ad qo sz h2 r.toInt64 0) 1 6 (hp_A ad qo sz) := by
  refine va_MetW (cc := cH) (maxL := 5) (ret := some .int) hyH rfl ?_
  intro p e s m args below meth c s₁ B hml hv
  obtain ⟨rfl, hsz, hP, hO, hK, hD, ha, hN, hE⟩ := hv
  subst hsz
  have hts0 := atoms_spec (ws := Cond.codeWith yH cH 5 (some .int) hp_h :: th_T) B.pre
  have X : th_X p s m _ meth c D cI cZ ad LC 5 RL cH (some .int) := ⟨B.exec, B.bytes, hml, hoH ▸ findClass_of_methodNamed B.named, fun w hw => hts0 w (List.mem_cons_of_mem _ hw), hK.sub [0, 1] rfl, hD, B.notSynchronized, B.returns, hN⟩
  have hqs : qo < s.heap.size := (hO 0 _ rfl).lt
  have hlv := lv_entry ([.ref (ad 0), .int x1, .int x2, .ref qo] : List Value) (n := 5) (Nat.le_of_ble_eq_true rfl)
  rw [lg_entry_eq]
  generalize (lg_sl ([.ref (ad 0), .int x1, .int x2, .ref qo] : List Value) ++ List.replicate (5 - (lg_sl ([.ref (ad 0), .int x1, .int x2, .ref qo] : List Value)).length) Slot.unset).toArray = ls at hlv ⊢
  have hlv : lv_has ls 5 [(0, .ref (ad 0)), (1, .int x1), (2, .int x2), (3, .ref qo)] := hlv
  refine lv_aload_n X.1 X.2.1 (th_da dt 0 rfl) rfl (lv_at hlv 3 rfl) ?_
  refine lv_iconst (v := 0) X.1 X.2.1 (th_da dt 1 rfl) (by decide) ?_
  refine lv_aload_n X.1 X.2.1 (th_da dt 2 rfl) rfl (lv_at hlv 0 rfl) ?_
  refine lv_iload_n X.1 X.2.1 (th_da dt 3 rfl) rfl (lv_at hlv 1 rfl) ?_
  refine lv_iload_n X.1 X.2.1 (th_da dt 4 rfl) rfl (lv_at hlv 2 rfl) ?_
  refine hp_call X (A := th_A ad LC s.heap.size) (fun q z => z) va_S.rf (va_runV (As := [.int x1, .int x2]) (b := ad 0) (nL := 5) (Ts := th_T) ⟨X.1, X.2.1, X.2.2.1, X.2.2.2.1, X.2.2.2.2.1⟩ (hM D cI cZ ad s.heap.size) (n := 2) ⟨callB_of 2 X.2.2.2.2.1 (th_good hc) rfl rfl rfl (X.2.2.2.2.1 _ w3) (X.2.2.2.2.1 _ w0) hd hR, X.2.2.2.2.1 _ w1, X.2.2.2.2.1 _ w2⟩ ⟨th_blind, va_recv X.2.2.2.2.2.1 hP (ci := 3) rfl (th_W_at (L := LC) (i := 0) (d := .inr (3, [3, 4, 21, 29, 47, 55, 73, 0, 0, 91, 92])) rfl), th_pre X hP⟩ rfl rfl hlv.1 rfl (lv_room (Nat.le_of_ble_eq_true rfl)) (th_da dt 5 rfl) ⟨Nat.zero_le _, Nat.zero_le _⟩) (fun H1 locs1 hP1 hk1 hS1 => ?_)
  have hO1 : va_P D vwCl (hp_o cJ qo o) H1 := hO.kept (fun k q hk => by
    have h1 := (List.getElem?_eq_some_iff.mp hk).1
    simp at h1
    rw [h1] at hk
    cases hk
    exact hk1 qo hqs (hp_not ha hqs))
  refine lv_i2l X.1 X.2.1 (th_da dt 6 rfl) rfl ?_
  refine hp_last (A := hp_A ad qo s.heap.size) X.1 X.2.1 hK 2 rfl hP1 hO1 hD ha (fun i hi => Or.inl (Or.inl ⟨i, by rw [LC_len]; exact hi, rfl⟩)) (Or.inr rfl) (hS1.mono (fun q z => Or.inl z)) (th_da dt 7 rfl) (fun H2 locs2 hP2 hO2 hS2 => ?_)
  refine lv_goto (tgt := 17) X.1 X.2.1 (th_da dt 8 rfl) (by decide) ?_
  refine lv_iconst (v := 0) X.1 X.2.1 (th_da dt 12 rfl) (by decide) ?_
  refine W.widen (k := 1) (n := 6) (Nat.le_of_ble_eq_true rfl) (Nat.le_of_ble_eq_true rfl) ?_
  exact W.iret X.1 X.2.1 X.2.2.2.2.2.2.2.2.1 (fun t ht hW => ⟨⟨rfl, by rw [ht]; exact hP2, by rw [ht]; exact hO2⟩, hS2.F ht⟩) hS2.2.2 (th_da dt 13 rfl) X.2.2.2.2.2.2.2.1
set_option maxHeartbeats 4000000 in
set_option maxRecDepth 100000 in
/-- the helper where the class throws -/
theorem hp_thr {yH y : MethodName} {cH bytes : ByteArray} {maxL idx : Nat} (hyH : plainName yH.cls = true) (hoH : yH.cls = RL) (dt : th_dec cH (hp_tb idx) = true) (hc : Cond.code y bytes maxL (some .int) ∈ th_T) (w0 : Cond.methodLink RL idx y ∈ th_T) (w1 : Cond.instanceMethod y ∈ th_T) (w2 : Cond.selects RX3 y y ∈ th_T) (w3 : Cond.initialized y.cls ∈ th_T) (hd : y.cls ≠ "java/lang/invoke/MethodHandle" ∧ y.cls ≠ "java/lang/invoke/VarHandle" ∧ (parseMethodDescriptor y.desc).map (fun d => d.parameters.length) = some 2) (hy : plainName y.cls = true) (ho : y.cls = RX3) (dx : th_dec bytes ex_tb = true) (hfit : 3 ≤ maxL) (hfit2 : 8 + (maxL + 11) + 82 ≤ 150)
    (l : Launch) (hl : l.stackTraces = false) (D : va_G) (cI cZ cJ : ClassId) (ad : Nat → Nat) (qo sz sa : Nat) (x1 x2 : Int32) (h : th_H) (o : Int64) (hf : fX0_has 2 x1 h = some (0, h)) :
    Met l yH (Cond.codeWith yH cH 5 (some .int) hp_h :: th_T) { frames := 7, cells := 1, slots := 6, locals := 150 } (hp_P D cI cZ cJ ad qo sz sa h o x1 x2) (hp_Q D cI cZ cJ ad qo sz h o 1) 1 6 (hp_A ad qo sz) := by
  refine va_MetW (cc := cH) (maxL := 5) (ret := some .int) hyH rfl ?_
  intro p e s m args below meth c s₁ B hml hv
  obtain ⟨rfl, hsz, hP, hO, hK, hD, ha, hN, hE⟩ := hv
  subst hsz
  have hts0 := atoms_spec (ws := Cond.codeWith yH cH 5 (some .int) hp_h :: th_T) B.pre
  have htab : c.exceptionTable.toList = tableOf hp_h := vx_table (x := yH) B (hts0 _ List.mem_cons_self)
  have X : th_X p s m _ meth c D cI cZ ad LC 5 RL cH (some .int) := ⟨B.exec, B.bytes, hml, hoH ▸ findClass_of_methodNamed B.named, fun w hw => hts0 w (List.mem_cons_of_mem _ hw), hK.sub [0, 1] rfl, hD, B.notSynchronized, B.returns, hN⟩
  have hqs : qo < s.heap.size := (hO 0 _ rfl).lt
  have hAA : ∀ q, th_A ad LC s.heap.size q → hp_A ad qo s.heap.size q := fun q z => Or.inl z
  have hlv := lv_entry ([.ref (ad 0), .int x1, .int x2, .ref qo] : List Value) (n := 5) (Nat.le_of_ble_eq_true rfl)
  rw [lg_entry_eq]
  generalize (lg_sl ([.ref (ad 0), .int x1, .int x2, .ref qo] : List Value) ++ List.replicate (5 - (lg_sl ([.ref (ad 0), .int x1, .int x2, .ref qo] : List Value)).length) Slot.unset).toArray = ls at hlv ⊢
  have hlv : lv_has ls 5 [(0, .ref (ad 0)), (1, .int x1), (2, .int x2), (3, .ref qo)] := hlv
  refine lv_aload_n X.1 X.2.1 (th_da dt 0 rfl) rfl (lv_at hlv 3 rfl) ?_
  refine lv_iconst (v := 0) X.1 X.2.1 (th_da dt 1 rfl) (by decide) ?_
  refine lv_aload_n X.1 X.2.1 (th_da dt 2 rfl) rfl (lv_at hlv 0 rfl) ?_
  refine lv_iload_n X.1 X.2.1 (th_da dt 3 rfl) rfl (lv_at hlv 1 rfl) ?_
  refine lv_iload_n X.1 X.2.1 (th_da dt 4 rfl) rfl (lv_at hlv 2 rfl) ?_
  refine vx_calli (vx_runV (As := [.int x1, .int x2]) (b := ad 0) (nL := 5) (Ts := th_T) (rest := [.int 0, .ref qo]) ⟨X.1, X.2.1, X.2.2.1, X.2.2.2.1, X.2.2.2.2.1⟩ (ex_thr hy ho dx hfit l hl D cI cZ ad s.heap.size sa x1 x2 h hf) (n := 2) ⟨callB_of 2 X.2.2.2.2.1 (th_good hc) rfl rfl rfl (X.2.2.2.2.1 _ w3) (X.2.2.2.2.1 _ w0) hd ⟨Nat.le_of_ble_eq_true rfl, hfit2⟩, X.2.2.2.2.1 _ w1, X.2.2.2.2.1 _ w2⟩ ⟨fun a U g mk q => ⟨th_blind a U g mk q.1, ex_E.same (u := U) (U := U.calling g mk a) rfl q.2⟩, va_recv X.2.2.2.2.2.1 hP (ci := 3) rfl (th_W_at (L := LC) (i := 0) (d := .inr (3, [3, 4, 21, 29, 47, 55, 73, 0, 0, 91, 92])) rfl), fun U hU hW => ⟨th_pre X hP U hU hW, by rw [hU]; exact (hE.warm hW).narrow hAA⟩⟩ rfl rfl hlv.1 rfl (lv_room (Nat.le_of_ble_eq_true rfl)) (th_da dt 5 rfl) ⟨Nat.le_of_ble_eq_true rfl, Nat.le_of_ble_eq_true rfl⟩) (va_S.rf (A := hp_A ad qo s.heap.size)) (fun q _ z => hAA q z) hAA (fun q _ z => hAA q z) ?_ (fun r u t H1 locs1 _ _ hp => hp.elim)
  intro E ce q9 u t H1 locs1 ht hvm _ hB hz1 hk1 hS1 hce hcv hcl
  obtain ⟨rfl, hP1⟩ := hB
  rw [ht] at hP1
  have hO1 : va_P D vwCl (hp_o cJ qo o) H1 := hO.kept (fun k q hk => by
    have h1 := (List.getElem?_eq_some_iff.mp hk).1
    simp at h1
    rw [h1] at hk
    cases hk
    exact hk1 qo hqs (hp_not ha hqs))
  refine vx_catch (own := RL) (name := xn_N) X.2.2.2.1 [] ⟨0, 10, 13, 13⟩ [] htab (fun z hz => by cases hz) (by decide) (by decide) (X.2.2.2.2.1 _ hp_w) (va_Nw.use rfl hE.2.1) hce hcv hcl ?_
  refine lv_astore (lv' := [(4, .ref q9), (0, .ref (ad 0)), (1, .int x1), (2, .int x2), (3, .ref qo)]) X.1 X.2.1 (th_da dt 9 rfl) hlv (by decide) rfl (fun ls hlv => ?_)
  refine lv_iconst (v := 1) X.1 X.2.1 (th_da dt 10 rfl) (by decide) ?_
  exact W.iret X.1 X.2.1 X.2.2.2.2.2.2.2.2.1 (fun t ht hW => ⟨⟨rfl, by rw [ht]; exact hP1, by rw [ht]; exact hO1⟩, hS1.F ht⟩) hS1.2.2 (th_da dt 11 rfl) X.2.2.2.2.2.2.2.1
