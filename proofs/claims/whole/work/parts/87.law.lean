/-! THE CLAIM OUT OF ONE WALK OF THE LAW'S BODY. Your part is whole_start (and what it stands on); all else here is the same for every law, but numbers. -/
def R_law : String := "FairRatesLaw"
def lw_P (b : Addr) (xs : List Int32) (args : Array Value) (s : State) : Prop := args = #[.ref b] ∧ s.IntsAt b xs ∧ xs.length ≤ 3072 ∧ (Jvm.Cond.and given_1 narrow_1).before args s = true
def lw_Q (_ : Array Value) (s : State) (o : Outcome) (t : State) : Prop := o = .returned (some (.int 1)) ∧ Framed s o t [] 1134 14355
def lw_Z (below : List Frame) (a : Array Value) (s : State) : State → Prop := fun t => ∃ o, t.status = .running ∧ Ended t below o ∧ lw_Q a s o t
/-- the law's own end, with 1 on the stack, nothing written that was there before, its room as the claim has it -/
theorem lw_ret {p : Program} {l : Launch} {e : Env} {s : State} {m : MethodId} {below : List Frame} {meth : Method} {c : Code} {b : Nat} (hx : p.tables.exec = Jvm.exec) (hb : c.code = code) (hr : meth.sig.returnType = ret) (hlocks : meth.locks = false) {pc : Nat} {H : Heap} {ls : Array Slot} (hdg : decode code pc = .ok (.ireturn, 1)) : W p l e room_1 s m #[Value.ref b] below meth c H [] 1134 14355 (lw_Z below #[Value.ref b] s) (F0 m pc ls [.int 1]) := by
  intro T hT X
  obtain ⟨fs, hret, hrun, hended, hW, hframe⟩ := X.leave (v := some (.int 1)) (hlocks := hlocks) (fun h => by rw [hr] at h; cases h)
  have hmeth' : T.vm.method? m = some meth := X.method'
  refine ⟨T.setFrames fs, ?_, .returned (some (.int 1)), hrun, hended, rfl, ⟨_, rfl⟩, hW, hframe⟩
  jvm_step X.here [X.here.top, hx, hb, hdg, hmeth', hr, ret, narrow_b1]
  (try refine ⟨rfl, ?_⟩); (try refine ⟨rfl, ?_⟩)
  first | (intro acts; rw [hret _ acts rfl rfl rfl]) | rw [hret _ _ rfl rfl rfl]
  exact Steps.refl _
/-- what holds at the law's entry: the machine, the code, the tables' words (any of lw_tbl by 'hts w (by decide +kernel)'), the script of L ints xs at the cell b, what the Statement gives of the start (any of its parts by flat_of_before) -/
def lw_At (p : Program) (s : State) (m : MethodId) (meth : Method) (c : Code) (b L : Nat) (xs : Nat → Int32) : Prop :=
  p.tables.exec = Jvm.exec ∧ c.code = code ∧ meth.sig.returnType = ret ∧ c.maxLocals = 7 ∧ s.vm.findClass R_law = some m.cls ∧ (∀ w ∈ lw_tbl, w.before #[Value.ref b] s = true) ∧ va_X b L xs s s.heap ∧ b < s.heap.size ∧ meth.locks = false ∧ (Jvm.Cond.and given_1 narrow_1).before #[Value.ref b] s = true
/-! ===== the law's judgement: both objects and the row of one long stand side by side ===== -/
theorem th_int {ad : Nat → Nat} (As : List Int32) : (As.map Value.int).map (th_cv ad) = As.map Value.int := by
  rw [List.map_map]
  exact List.map_congr_left (fun _ _ => rfl)
theorem LM_len : LM.length = 15 := rfl
def lw_A (s : State) : Nat → Prop := fun q => s.heap.size ≤ q
/-- what holds all along -/
def lw_X (p : Program) (s : State) (m : MethodId) (meth : Method) (c : Code) (b L : Nat) (xs : Nat → Int32) (D : va_G) (cI cZ cJ : ClassId) (adC adM : Nat → Nat) (qo sa : Nat) : Prop :=
  lw_At p s m meth c b L xs ∧ va_K D vwCl (hp_ty cI cZ cJ) s ∧ (th_DD adC LC ∧ th_DD adM LM) ∧ ((∀ i, i < 91 → s.heap.size ≤ adC i ∧ adC i ≠ qo) ∧ (∀ i, i < 15 → s.heap.size ≤ adM i ∧ adM i ≠ qo) ∧ ∀ i j, i < 91 → j < 15 → adC i ≠ adM j) ∧ s.heap.size ≤ qo ∧ th_NW s ∧ ex_E sa (lw_A s) s s.heap
def lw_J (s : State) (D : va_G) (cI cZ cJ : ClassId) (adC adM : Nat → Nat) (qo : Nat) (h mm : th_H) (o : Int64) (H : Heap) (locs : List Loc) : Prop :=
  va_P D vwCl (th_W cI cZ adC LC h) H ∧ va_P D vwCl (th_W cI cZ adM LM mm) H ∧ va_P D vwCl (hp_o cJ qo o) H ∧ va_S (lw_A s) s.heap H locs
abbrev lw_l (b qo : Nat) (adC adM : Nat → Nat) (i : Nat) (lr : List (Nat × Value)) : List (Nat × Value) := (0, .ref b) :: (1, .ref (adC 0)) :: (2, .ref (adM 0)) :: (3, .ref qo) :: (4, .int (nI i)) :: lr
def lw_V (p : Program) (l : Launch) (e : Env) (s : State) (m : MethodId) (below : List Frame) (meth : Method) (c : Code) (b : Nat) (D : va_G) (cI cZ cJ : ClassId) (adC adM : Nat → Nat) (qo : Nat) (cells slots pc i : Nat) (lr : List (Nat × Value)) (st : List Value) (h mm : th_H) (o : Int64) : Prop :=
  ∀ (H : Heap) (locs : List Loc) (a : Array Slot), lw_J s D cI cZ cJ adC adM qo h mm o H locs → lv_has a 7 (lw_l b qo adC adM i lr) → W p l e room_1 s m #[Value.ref b] below meth c H locs cells slots (lw_Z below #[Value.ref b] s) (F0 m pc a st)
section
variable {p : Program} {l : Launch} {e : Env} {s : State} {m : MethodId} {below : List Frame} {meth : Method} {c : Code} {b L : Nat} {xs : Nat → Int32} {D : va_G} {cI cZ cJ : ClassId} {adC adM : Nat → Nat} {qo sa : Nat} {h mm : th_H} {o : Int64} {cells slots pc i : Nat} {lr : List (Nat × Value)} {st : List Value}
theorem lw_X.words (X : lw_X p s m meth c b L xs D cI cZ cJ adC adM qo sa) : ∀ w ∈ th_T, w.before #[Value.ref b] s = true := fun w hw => X.1.2.2.2.2.2.1 w (List.mem_filter.mp hw).1
theorem lw_X.C (X : lw_X p s m meth c b L xs D cI cZ cJ adC adM qo sa) : th_X p s m #[Value.ref b] meth c D cI cZ adC LC 7 RL code ret := ⟨X.1.1, X.1.2.1, X.1.2.2.2.1, X.1.2.2.2.2.1, X.words, X.2.1.sub [0, 1] rfl, X.2.2.1.1, X.1.2.2.2.2.2.2.2.2.1, X.1.2.2.1, X.2.2.2.2.2.1⟩
theorem lw_X.M (X : lw_X p s m meth c b L xs D cI cZ cJ adC adM qo sa) : th_X p s m #[Value.ref b] meth c D cI cZ adM LM 7 RL code ret := ⟨X.1.1, X.1.2.1, X.1.2.2.2.1, X.1.2.2.2.2.1, X.words, X.2.1.sub [0, 1] rfl, X.2.2.1.2, X.1.2.2.2.2.2.2.2.2.1, X.1.2.2.1, X.2.2.2.2.2.1⟩
theorem lw_X.AC (X : lw_X p s m meth c b L xs D cI cZ cJ adC adM qo sa) {H : Heap} (hz : s.heap.size ≤ H.size) : ∀ q, th_A adC LC H.size q → lw_A s q := by
  rintro q (⟨i, h1, h2⟩ | h1)
  · rw [h2]; exact (X.2.2.2.1.1 i (by rw [LC_len] at h1; exact h1)).1
  · exact Nat.le_trans hz h1
theorem lw_X.AM (X : lw_X p s m meth c b L xs D cI cZ cJ adC adM qo sa) {H : Heap} (hz : s.heap.size ≤ H.size) : ∀ q, th_A adM LM H.size q → lw_A s q := by
  rintro q (⟨i, h1, h2⟩ | h1)
  · rw [h2]; exact (X.2.2.2.1.2.1 i (by rw [LM_len] at h1; exact h1)).1
  · exact Nat.le_trans hz h1
theorem lw_one {cJ : ClassId} {qo : Nat} {o : Int64} {k : Nat} {q : Nat × va_E} (hk : (hp_o cJ qo o)[k]? = some q) : q.1 = qo := by
  have h1 := (List.getElem?_eq_some_iff.mp hk).1
  simp at h1
  rw [h1] at hk
  cases hk
  rfl
theorem L_ald1 (X : lw_X p s m meth c b L xs D cI cZ cJ adC adM qo sa) (d : decode code pc = .ok (.aload_n 1, 1)) (k : lw_V p l e s m below meth c b D cI cZ cJ adC adM qo cells slots (pc + 1) i lr (.ref (adC 0) :: st) h mm o) : lw_V p l e s m below meth c b D cI cZ cJ adC adM qo cells slots pc i lr st h mm o := fun H locs a hJ hl => lv_aload_n X.1.1 X.1.2.1 d rfl (lv_at hl 1 rfl) (k H locs a hJ hl)
theorem L_ald2 (X : lw_X p s m meth c b L xs D cI cZ cJ adC adM qo sa) (d : decode code pc = .ok (.aload_n 2, 1)) (k : lw_V p l e s m below meth c b D cI cZ cJ adC adM qo cells slots (pc + 1) i lr (.ref (adM 0) :: st) h mm o) : lw_V p l e s m below meth c b D cI cZ cJ adC adM qo cells slots pc i lr st h mm o := fun H locs a hJ hl => lv_aload_n X.1.1 X.1.2.1 d rfl (lv_at hl 2 rfl) (k H locs a hJ hl)
theorem L_ald3 (X : lw_X p s m meth c b L xs D cI cZ cJ adC adM qo sa) (d : decode code pc = .ok (.aload_n 3, 1)) (k : lw_V p l e s m below meth c b D cI cZ cJ adC adM qo cells slots (pc + 1) i lr (.ref qo :: st) h mm o) : lw_V p l e s m below meth c b D cI cZ cJ adC adM qo cells slots pc i lr st h mm o := fun H locs a hJ hl => lv_aload_n X.1.1 X.1.2.1 d rfl (lv_at hl 3 rfl) (k H locs a hJ hl)
/-- script[i + j] -/
theorem L_arg (X : lw_X p s m meth c b L xs D cI cZ cJ adC adM qo sa) (hL : L ≤ 3072) (hi : i + 6 ≤ L) {n : Int} {j : Nat} (hn : Int32.ofInt n = nI j) (hj : j < 6) (d0 : decode code pc = .ok (.aload_n 0, 1)) (d1 : decode code (pc + 1) = .ok (.iload 4, 2)) (d2 : decode code (pc + 3) = .ok (.iconst n, 1)) (d3 : decode code (pc + 4) = .ok (.iadd, 1)) (d4 : decode code (pc + 5) = .ok (.iaload, 1)) (k : lw_V p l e s m below meth c b D cI cZ cJ adC adM qo cells slots (pc + 6) i lr (.int (xs (i + j)) :: st) h mm o) : lw_V p l e s m below meth c b D cI cZ cJ adC adM qo cells slots pc i lr st h mm o := by
  intro H locs a hJ hl
  refine lv_aload_n X.1.1 X.1.2.1 d0 rfl (lv_at hl 0 rfl) ?_
  refine lv_iload X.1.1 X.1.2.1 d1 (lv_at hl 4 rfl) ?_
  refine lv_iconst X.1.1 X.1.2.1 d2 hn ?_
  refine lv_iadd X.1.1 X.1.2.1 d3 ?_
  rw [nI_add]
  refine va_sld (A := lw_A s) X.1.1 X.1.2.1 X.1.2.2.2.2.2.2.1 X.1.2.2.2.2.2.2.2.1 (Nat.not_le.mpr X.1.2.2.2.2.2.2.2.1) hJ.2.2.2 (vp_in_nI (show i + j < L by omega) (by omega)) d4 ?_
  rw [nI_clamp (show i + j < 2 ^ 31 by omega)]
  exact k H locs a hJ hl
/-- the bool of an int -/
theorem L_bool (X : lw_X p s m meth c b L xs D cI cZ cJ adC adM qo sa) {x : Int32} (d0 : decode code pc = .ok (.ifCond .eq 7, 3)) (d1 : decode code (pc + 3) = .ok (.iconst 1, 1)) (d2 : decode code (pc + 4) = .ok (.goto 4, 3)) (d3 : decode code (pc + 7) = .ok (.iconst 0, 1)) (k : lw_V p l e s m below meth c b D cI cZ cJ adC adM qo cells slots (pc + 8) i lr (.int (if x = 0 then 0 else 1) :: st) h mm o) : lw_V p l e s m below meth c b D cI cZ cJ adC adM qo cells slots pc i lr (.int x :: st) h mm o := by
  intro H locs a hJ hl
  refine lv_if_eq (tgt := pc + 7) X.1.1 X.1.2.1 d0 (by omega) (fun z => ?_) (fun z => ?_)
  · refine lv_iconst (v := 0) X.1.1 X.1.2.1 d3 (by decide) ?_
    have k2 := k H locs a hJ hl
    rw [if_pos z] at k2
    exact k2
  · refine lv_iconst (v := 1) X.1.1 X.1.2.1 d1 (by decide) ?_
    refine lv_goto (tgt := pc + 8) X.1.1 X.1.2.1 d2 (by omega) ?_
    have k2 := k H locs a hJ hl
    rw [if_neg z] at k2
    exact k2
theorem lw_J.callC (X : lw_X p s m meth c b L xs D cI cZ cJ adC adM qo sa) {H H1 : Heap} {locs locs1 : List Loc} {h1 : th_H} (hJ : lw_J s D cI cZ cJ adC adM qo h mm o H locs) (hP1 : va_P D vwCl (th_W cI cZ adC LC h1) H1) (hk : ∀ q : Nat, q < H.size → ¬ th_A adC LC H.size q → H1[q]? = H[q]?) (hS1 : va_S (lw_A s) s.heap H1 locs1) : lw_J s D cI cZ cJ adC adM qo h1 mm o H1 locs1 := by
  refine ⟨hP1, hJ.2.1.kept (fun k q hq => ?_), hJ.2.2.1.kept (fun k q hq => ?_), hS1⟩
  · obtain ⟨g1, g2⟩ := th_W_of hq
    rw [LM_len] at g1
    refine hk q.1 ((hJ.2.1 k q hq).lt) ?_
    rintro (⟨i, z1, z2⟩ | z)
    · rw [LC_len] at z1
      exact X.2.2.2.1.2.2 i k z1 g1 (by rw [← z2, g2])
    · exact absurd ((hJ.2.1 k q hq).lt) (Nat.not_lt.mpr z)
  · refine hk q.1 ((hJ.2.2.1 k q hq).lt) ?_
    rintro (⟨i, z1, z2⟩ | z)
    · rw [LC_len] at z1
      exact (X.2.2.2.1.1 i z1).2 (by rw [← z2, lw_one hq])
    · exact absurd ((hJ.2.2.1 k q hq).lt) (Nat.not_lt.mpr z)
theorem lw_J.callM (X : lw_X p s m meth c b L xs D cI cZ cJ adC adM qo sa) {H H1 : Heap} {locs locs1 : List Loc} {m1 : th_H} (hJ : lw_J s D cI cZ cJ adC adM qo h mm o H locs) (hP1 : va_P D vwCl (th_W cI cZ adM LM m1) H1) (hk : ∀ q : Nat, q < H.size → ¬ th_A adM LM H.size q → H1[q]? = H[q]?) (hS1 : va_S (lw_A s) s.heap H1 locs1) : lw_J s D cI cZ cJ adC adM qo h m1 o H1 locs1 := by
  refine ⟨hJ.1.kept (fun k q hq => ?_), hP1, hJ.2.2.1.kept (fun k q hq => ?_), hS1⟩
  · obtain ⟨g1, g2⟩ := th_W_of hq
    rw [LC_len] at g1
    refine hk q.1 ((hJ.1 k q hq).lt) ?_
    rintro (⟨i, z1, z2⟩ | z)
    · rw [LM_len] at z1
      exact X.2.2.2.1.2.2 k i g1 z1 (by rw [← z2, g2])
    · exact absurd ((hJ.1 k q hq).lt) (Nat.not_lt.mpr z)
  · refine hk q.1 ((hJ.2.2.1 k q hq).lt) ?_
    rintro (⟨i, z1, z2⟩ | z)
    · rw [LM_len] at z1
      exact (X.2.2.2.1.2.1 i z1).2 (by rw [← z2, lw_one hq])
    · exact absurd ((hJ.2.2.1 k q hq).lt) (Nat.not_lt.mpr z)
/-- a call of the class -/
theorem L_callC (X : lw_X p s m meth c b L xs D cI cZ cJ adC adM qo sa) (hcs : cells ≤ 1134 ∧ slots ≤ 14355) {y : MethodName} {bytes : ByteArray} {maxL : Nat} {rt : Option FieldType} {F N index : Nat} {rv : Value} {h1 : th_H} {stk : List Value} (As : List Int32) (d : decode code pc = .ok (.invokevirtual index, 3)) (hM : th_MI l LC y bytes maxL rt F N (.ref 0 :: As.map Value.int) h (some rv) h1) (hc : Cond.code y bytes maxL rt ∈ th_T) (w0 : Cond.methodLink RL index y ∈ th_T) (w1 : Cond.instanceMethod y ∈ th_T) (w2 : Cond.selects RX3 y y ∈ th_T) (w3 : Cond.initialized y.cls ∈ th_T) (hd : y.cls ≠ "java/lang/invoke/MethodHandle" ∧ y.cls ≠ "java/lang/invoke/VarHandle" ∧ (parseMethodDescriptor y.desc).map (fun d => d.parameters.length) = some As.length) (hR : F + 1 ≤ 10 ∧ 8 + (maxL + 11) + N ≤ 380) (hW : (st.map fun v => v.category).sum ≤ 8) (hs : stk = (As.map Value.int).reverse ++ .ref (adC 0) :: st)
    (k : lw_V p l e s m below meth c b D cI cZ cJ adC adM qo cells slots (pc + 3) i lr (th_cv adC rv :: st) h1 mm o) : lw_V p l e s m below meth c b D cI cZ cJ adC adM qo cells slots pc i lr stk h mm o := by
  subst hs
  intro H locs a hJ hl
  have XC := X.C
  refine hp_call XC (A := lw_A s) (X.AC hJ.2.2.2.1) hJ.2.2.2 (va_runV (As := (As.map Value.int).map (th_cv adC)) (b := adC 0) (nL := 7) (Ts := th_T) (rest := st) ⟨XC.1, XC.2.1, XC.2.2.1, XC.2.2.2.1, XC.2.2.2.2.1⟩ (hM D cI cZ adC H.size) (n := As.length) ⟨callB_of As.length XC.2.2.2.2.1 (th_good hc) rfl rfl rfl (XC.2.2.2.2.1 _ w3) (XC.2.2.2.2.1 _ w0) hd hR, XC.2.2.2.2.1 _ w1, XC.2.2.2.2.1 _ w2⟩ ⟨th_blind, va_recv XC.2.2.2.2.2.1 hJ.1 (ci := 3) rfl (th_W_at (L := LC) (i := 0) (d := .inr (3, [3, 4, 21, 29, 47, 55, 73, 0, 0, 91, 92])) rfl), th_pre XC hJ.1⟩ rfl (by simp) hl.1 (by rw [th_int]) (lv_room hW) d hcs) (fun H1 locs1 hP1 hk1 hS1 => ?_)
  exact k H1 locs1 a (hJ.callC X hP1 hk1 hS1) hl
/-- a call of the reference -/
theorem L_callM (X : lw_X p s m meth c b L xs D cI cZ cJ adC adM qo sa) (hcs : cells ≤ 1134 ∧ slots ≤ 14355) {y : MethodName} {bytes : ByteArray} {maxL : Nat} {rt : Option FieldType} {F N index : Nat} {rv : Value} {m1 : th_H} {stk : List Value} (As : List Int32) (d : decode code pc = .ok (.invokevirtual index, 3)) (hM : th_MI l LM y bytes maxL rt F N (.ref 0 :: As.map Value.int) mm (some rv) m1) (hc : Cond.code y bytes maxL rt ∈ th_T) (w0 : Cond.methodLink RL index y ∈ th_T) (w1 : Cond.instanceMethod y ∈ th_T) (w2 : Cond.selects RX4 y y ∈ th_T) (w3 : Cond.initialized y.cls ∈ th_T) (hd : y.cls ≠ "java/lang/invoke/MethodHandle" ∧ y.cls ≠ "java/lang/invoke/VarHandle" ∧ (parseMethodDescriptor y.desc).map (fun d => d.parameters.length) = some As.length) (hR : F + 1 ≤ 10 ∧ 8 + (maxL + 11) + N ≤ 380) (hW : (st.map fun v => v.category).sum ≤ 8) (hs : stk = (As.map Value.int).reverse ++ .ref (adM 0) :: st)
    (k : lw_V p l e s m below meth c b D cI cZ cJ adC adM qo cells slots (pc + 3) i lr (th_cv adM rv :: st) h m1 o) : lw_V p l e s m below meth c b D cI cZ cJ adC adM qo cells slots pc i lr stk h mm o := by
  subst hs
  intro H locs a hJ hl
  have XM := X.M
  refine hp_call XM (A := lw_A s) (X.AM hJ.2.2.2.1) hJ.2.2.2 (va_runV (As := (As.map Value.int).map (th_cv adM)) (b := adM 0) (nL := 7) (Ts := th_T) (rest := st) ⟨XM.1, XM.2.1, XM.2.2.1, XM.2.2.2.1, XM.2.2.2.2.1⟩ (hM D cI cZ adM H.size) (n := As.length) ⟨callB_of As.length XM.2.2.2.2.1 (th_good hc) rfl rfl rfl (XM.2.2.2.2.1 _ w3) (XM.2.2.2.2.1 _ w0) hd hR, XM.2.2.2.2.1 _ w1, XM.2.2.2.2.1 _ w2⟩ ⟨th_blind, va_recv XM.2.2.2.2.2.1 hJ.2.1 (ci := 4) rfl (th_W_at (L := LM) (i := 0) (d := .inr (4, [0, 3, 4, 5, 6, 7, 8, 9, 10, 11, 12, 13, 14, 0, 15, 0, 16, 1])) rfl), th_pre XM hJ.2.1⟩ rfl (by simp) hl.1 (by rw [th_int]) (lv_room hW) d hcs) (fun H1 locs1 hP1 hk1 hS1 => ?_)
  exact k H1 locs1 a (hJ.callM X hP1 hk1 hS1) hl
theorem hp_good {y : MethodName} {bytes : ByteArray} {maxL : Nat} {rt : Option FieldType} {hh : List (Nat × Nat × Nat × Nat)} (hc : Cond.codeWith y bytes maxL rt hh ∈ th_T) : GoodIn th_T (Cond.codeWith y bytes maxL rt hh :: th_T) := by
  intro w hw
  rcases List.mem_cons.mp hw with rfl | hw
  · exact ⟨hc, good_of_word (List.mem_filter.mp hc).2⟩
  · exact ⟨hw, good_of_word (List.mem_filter.mp hw).2⟩
set_option maxHeartbeats 1000000 in
/-- a call of a helper -/
theorem L_help (X : lw_X p s m meth c b L xs D cI cZ cJ adC adM qo sa) (hcs : cells + 1 ≤ 1134 ∧ slots + 6 ≤ 14355) {y : MethodName} {bytes : ByteArray} {index : Nat} {h1 : th_H} {o1 : Int64} {k1 x1 x2 : Int32} (d : decode code pc = .ok (.invokestatic index, 3)) (hM : ∀ sz, Met l y (Cond.codeWith y bytes 5 (some .int) hp_h :: th_T) { frames := 7, cells := 1, slots := 6, locals := 150 } (hp_P D cI cZ cJ adC qo sz sa h o x1 x2) (hp_Q D cI cZ cJ adC qo sz h1 o1 k1) 1 6 (hp_A adC qo sz)) (hc : Cond.codeWith y bytes 5 (some .int) hp_h ∈ th_T) (w0 : Cond.methodLink RL index y ∈ th_T) (w1 : Cond.static y ∈ th_T) (w3 : Cond.initialized y.cls ∈ th_T) (hd : y.cls ≠ "java/lang/invoke/MethodHandle" ∧ y.cls ≠ "java/lang/invoke/VarHandle" ∧ (parseMethodDescriptor y.desc).map (fun d => d.parameters.length) = some 4)
    (k : lw_V p l e s m below meth c b D cI cZ cJ adC adM qo (cells + 1) (slots + 6) (pc + 3) i lr [.int k1] h1 mm o1) : lw_V p l e s m below meth c b D cI cZ cJ adC adM qo cells slots pc i lr [.ref qo, .int x2, .int x1, .ref (adC 0)] h mm o := by
  intro H locs a hJ hl
  have XC := X.C
  have hAA : ∀ q, hp_A adC qo H.size q → lw_A s q := fun q z => z.elim (X.AC hJ.2.2.2.1 q) (fun z => by rw [z]; exact X.2.2.2.2.1)
  have hr := vx_runSW (p := p) (e := e) (below := below) (meth := meth) (locs := locs) (cells := cells) (slots := slots) (R := room_1) (As := [.ref (adC 0), .int x1, .int x2, .ref qo]) (nL := 7) (Ts := th_T) (rest := []) (own := RL) (index := index) (H := H) (g := F0 m pc a [.ref qo, .int x2, .int x1, .ref (adC 0)]) (n := 4) ⟨XC.1, XC.2.1, XC.2.2.1, XC.2.2.2.1, XC.2.2.2.2.1⟩ (hM H.size) ⟨⟨rfl, rfl, Nat.le_of_ble_eq_true rfl, Nat.le_of_ble_eq_true rfl, pay_in X.words (hp_good hc), List.mem_cons_self⟩, X.words _ hc, X.words _ w3, ⟨hd.1, hd.2.1⟩, fun sig hsig => by
      have h2 := hd.2.2
      rw [hsig] at h2
      exact (Option.some.inj h2).symm, X.words _ w0, X.words _ w1⟩ ⟨hp_blind, fun U hU hW => ⟨rfl, by rw [hU], by rw [hU]; exact hJ.1, by rw [hU]; exact hJ.2.2.1, va_K.moved hW.alike X.2.1, X.2.2.1.1, fun i hi => (X.2.2.2.1.1 i hi).2, va_Nw.warmM hW X.2.2.2.2.2.1, by rw [hU]; exact ((X.2.2.2.2.2.2.kept hJ.2.2.2.2.1).warm hW).narrow hAA⟩⟩ rfl rfl hl.1 rfl (lv_room (Nat.le_of_ble_eq_true rfl)) d hcs
  intro T hT Y
  obtain ⟨v, st₀, t, T', L', h0, Y', hL', e1, e2, ⟨⟨hv, hp, ho⟩, hz, hk⟩, sx⟩ := hr T hT Y
  have hv : v = some (.int k1) := by injection hv
  subst hv
  rw [h0] at hz hk
  have hS := hJ.2.2.2
  have hJ1 : lw_J s D cI cZ cJ adC adM qo h1 mm o1 T'.heap (locs ++ L') := by
    refine ⟨by rw [e1]; exact hp, hJ.2.1.kept (fun k q hq => ?_), by rw [e1]; exact ho, ⟨Nat.le_trans hS.1 (by rw [e1]; exact hz), fun q g1 g2 => by rw [e1, hk q (Nat.lt_of_lt_of_le g1 hS.1) (fun z => g2 (hAA q z))]; exact hS.2.1 q g1 g2, fun q hq => by
      rcases List.mem_append.mp hq with z | z
      · exact hS.2.2 q z
      · exact hAA _ (hL' q z)⟩⟩
    obtain ⟨g1, g2⟩ := th_W_of hq
    rw [LM_len] at g1
    rw [e1]
    refine hk q.1 ((hJ.2.1 k q hq).lt) ?_
    rintro ((⟨i, z1, z2⟩ | z) | z)
    · rw [LC_len] at z1
      exact X.2.2.2.1.2.2 i k z1 g1 (by rw [← z2, g2])
    · exact absurd ((hJ.2.1 k q hq).lt) (Nat.not_lt.mpr z)
    · exact (X.2.2.2.1.2.1 k g1).2 (by rw [← g2, z])
  obtain ⟨t2, q1, q2⟩ := k T'.heap (locs ++ L') a hJ1 hl T' rfl Y'
  exact ⟨t2, sx t2 q1, q2⟩
/-- the end of a case: the answers are the same -/
theorem L_eq (X : lw_X p s m meth c b L xs D cI cZ cJ adC adM qo sa) {x : Int32} {off : Int} {tgt : Nat} (d : decode code pc = .ok (.if_icmp .eq off, 3)) (ht : (pc : Int) + off = (tgt : Int)) (k : lw_V p l e s m below meth c b D cI cZ cJ adC adM qo cells slots tgt i lr st h mm o) : lw_V p l e s m below meth c b D cI cZ cJ adC adM qo cells slots pc i lr (.int x :: .int x :: st) h mm o := fun H locs a hJ hl => lv_icmp_eq X.1.1 X.1.2.1 d ht (fun _ => k H locs a hJ hl) (fun z => absurd rfl z)
theorem L_leq (X : lw_X p s m meth c b L xs D cI cZ cJ adC adM qo sa) {x : Int64} {off : Int} {tgt : Nat} (d0 : decode code pc = .ok (.lcmp, 1)) (d : decode code (pc + 1) = .ok (.ifCond .eq off, 3)) (ht : ((pc + 1 : Nat) : Int) + off = (tgt : Int)) (k : lw_V p l e s m below meth c b D cI cZ cJ adC adM qo cells slots tgt i lr st h mm o) : lw_V p l e s m below meth c b D cI cZ cJ adC adM qo cells slots pc i lr (.long x :: .long x :: st) h mm o := fun H locs a hJ hl => W.lcmp X.1.1 X.1.2.1 d0 (lv_if_eq X.1.1 X.1.2.1 d ht (fun _ => k H locs a hJ hl) (fun z => absurd (by unfold lg_cmp; simp) z))
theorem L_goto (X : lw_X p s m meth c b L xs D cI cZ cJ adC adM qo sa) {off : Int} {tgt : Nat} (d : decode code pc = .ok (.goto off, 3)) (ht : (pc : Int) + off = (tgt : Int)) (k : lw_V p l e s m below meth c b D cI cZ cJ adC adM qo cells slots tgt i lr st h mm o) : lw_V p l e s m below meth c b D cI cZ cJ adC adM qo cells slots pc i lr st h mm o := fun H locs a hJ hl => lv_goto X.1.1 X.1.2.1 d ht (k H locs a hJ hl)
theorem L_ist5 (X : lw_X p s m meth c b L xs D cI cZ cJ adC adM qo sa) {x : Int32} (d : decode code pc = .ok (.istore 5, 2)) (k : lw_V p l e s m below meth c b D cI cZ cJ adC adM qo cells slots (pc + 2) i [(5, .int x)] st h mm o) : lw_V p l e s m below meth c b D cI cZ cJ adC adM qo cells slots pc i [] (.int x :: st) h mm o := fun H locs _ hJ hl => lv_istore X.1.1 X.1.2.1 d hl (by decide) rfl (fun a2 hl2 => k H locs a2 hJ (lv_sub hl2 [1, 2, 3, 4, 5, 0] rfl))
theorem L_ist6 (X : lw_X p s m meth c b L xs D cI cZ cJ adC adM qo sa) {x z : Int32} (d : decode code pc = .ok (.istore 6, 2)) (k : lw_V p l e s m below meth c b D cI cZ cJ adC adM qo cells slots (pc + 2) i [(5, .int z), (6, .int x)] st h mm o) : lw_V p l e s m below meth c b D cI cZ cJ adC adM qo cells slots pc i [(5, .int z)] (.int x :: st) h mm o := fun H locs _ hJ hl => lv_istore X.1.1 X.1.2.1 d hl (by decide) rfl (fun a2 hl2 => k H locs a2 hJ (lv_sub hl2 [1, 2, 3, 4, 5, 6, 0] rfl))
theorem L_il5 (X : lw_X p s m meth c b L xs D cI cZ cJ adC adM qo sa) {x : Int32} {lt : List (Nat × Value)} (d : decode code pc = .ok (.iload 5, 2)) (k : lw_V p l e s m below meth c b D cI cZ cJ adC adM qo cells slots (pc + 2) i ((5, .int x) :: lt) (.int x :: st) h mm o) : lw_V p l e s m below meth c b D cI cZ cJ adC adM qo cells slots pc i ((5, .int x) :: lt) st h mm o := fun H locs a hJ hl => lv_iload X.1.1 X.1.2.1 d (lv_at hl 5 rfl) (k H locs a hJ hl)
theorem L_il6 (X : lw_X p s m meth c b L xs D cI cZ cJ adC adM qo sa) {x z : Int32} (d : decode code pc = .ok (.iload 6, 2)) (k : lw_V p l e s m below meth c b D cI cZ cJ adC adM qo cells slots (pc + 2) i [(5, .int z), (6, .int x)] (.int x :: st) h mm o) : lw_V p l e s m below meth c b D cI cZ cJ adC adM qo cells slots pc i [(5, .int z), (6, .int x)] st h mm o := fun H locs a hJ hl => lv_iload X.1.1 X.1.2.1 d (lv_at hl 6 rfl) (k H locs a hJ hl)
theorem L_if1 (X : lw_X p s m meth c b L xs D cI cZ cJ adC adM qo sa) {off : Int} {tgt : Nat} (d : decode code pc = .ok (.ifCond .ne off, 3)) (ht : (pc : Int) + off = (tgt : Int)) (k : lw_V p l e s m below meth c b D cI cZ cJ adC adM qo cells slots tgt i lr st h mm o) : lw_V p l e s m below meth c b D cI cZ cJ adC adM qo cells slots pc i lr (.int 1 :: st) h mm o := fun H locs a hJ hl => lv_if_ne X.1.1 X.1.2.1 d ht (fun _ => k H locs a hJ hl) (fun z => absurd z (by decide))
theorem L_if0 (X : lw_X p s m meth c b L xs D cI cZ cJ adC adM qo sa) {off : Int} {tgt : Nat} (d : decode code pc = .ok (.ifCond .ne off, 3)) (ht : (pc : Int) + off = (tgt : Int)) (k : lw_V p l e s m below meth c b D cI cZ cJ adC adM qo cells slots (pc + 3) i lr st h mm o) : lw_V p l e s m below meth c b D cI cZ cJ adC adM qo cells slots pc i lr (.int 0 :: st) h mm o := fun H locs a hJ hl => lv_if_ne X.1.1 X.1.2.1 d ht (fun z => absurd rfl z) (fun _ => k H locs a hJ hl)
/-- out[0] -/
theorem L_out (X : lw_X p s m meth c b L xs D cI cZ cJ adC adM qo sa) (d0 : decode code pc = .ok (.aload_n 3, 1)) (d1 : decode code (pc + 1) = .ok (.iconst 0, 1)) (d2 : decode code (pc + 2) = .ok (.laload, 1)) (k : lw_V p l e s m below meth c b D cI cZ cJ adC adM qo cells slots (pc + 3) i lr (.long o :: st) h mm o) : lw_V p l e s m below meth c b D cI cZ cJ adC adM qo cells slots pc i lr st h mm o := by
  intro H locs a hJ hl
  refine lv_aload_n X.1.1 X.1.2.1 d0 rfl (lv_at hl 3 rfl) ?_
  refine lv_iconst (v := 0) X.1.1 X.1.2.1 d1 (by decide) ?_
  exact va_lald X.1.1 X.1.2.1 X.2.1 hJ.2.2.1 0 2 rfl rfl (by unfold vp_in; decide) d2 (k H locs a hJ hl)
theorem L_i2l (X : lw_X p s m meth c b L xs D cI cZ cJ adC adM qo sa) {x : Int32} (d : decode code pc = .ok (.i2l, 1)) (k : lw_V p l e s m below meth c b D cI cZ cJ adC adM qo cells slots (pc + 1) i lr (.long x.toInt64 :: st) h mm o) : lw_V p l e s m below meth c b D cI cZ cJ adC adM qo cells slots pc i lr (.int x :: st) h mm o := fun H locs a hJ hl => lv_i2l X.1.1 X.1.2.1 d rfl (k H locs a hJ hl)
theorem L_wide {k9 n9 : Nat} (h1 : cells ≤ k9) (h2 : slots ≤ n9) (k : lw_V p l e s m below meth c b D cI cZ cJ adC adM qo k9 n9 pc i lr st h mm o) : lw_V p l e s m below meth c b D cI cZ cJ adC adM qo cells slots pc i lr st h mm o := fun H locs a hJ hl => W.widen h1 h2 (k H locs a hJ hl)
theorem dL_end : th_dec code [(1820, .iinc 4 6, 3), (1823, .goto (-1800), 3), (1826, .iconst 1, 1), (1827, .ireturn, 1)] = true := by decide +kernel
/-- to the next call -/
theorem L_next (X : lw_X p s m meth c b L xs D cI cZ cJ adC adM qo sa) (k : lw_V p l e s m below meth c b D cI cZ cJ adC adM qo cells slots 23 (i + 6) [] [] h mm o) : lw_V p l e s m below meth c b D cI cZ cJ adC adM qo cells slots 1820 i lr [] h mm o := by
  intro H locs a hJ hl
  have hl := lv_sub hl (l' := lw_l b qo adC adM i []) [0, 1, 2, 3, 4] rfl
  refine lv_iinc (v := nI (i + 6)) (lv' := (4, .int (nI (i + 6))) :: [(0, .ref b), (1, .ref (adC 0)), (2, .ref (adM 0)), (3, .ref qo)]) X.1.1 X.1.2.1 (th_da dL_end 0 rfl) hl (k := 4) rfl (nI_add i 6) (by decide) rfl (fun a2 hl2 => ?_)
  refine lv_goto (tgt := 23) X.1.1 X.1.2.1 (th_da dL_end 1 rfl) (by decide) ?_
  exact k H locs a2 hJ (lv_sub hl2 [1, 2, 3, 4, 0] rfl)
/-- the law's end -/
theorem L_end (X : lw_X p s m meth c b L xs D cI cZ cJ adC adM qo sa) (hcs : cells ≤ 1134 ∧ slots ≤ 14355) : lw_V p l e s m below meth c b D cI cZ cJ adC adM qo cells slots 1826 i lr [] h mm o := by
  intro H locs a hJ hl
  refine lv_iconst (v := 1) X.1.1 X.1.2.1 (th_da dL_end 2 rfl) (by decide) ?_
  refine va_forget hJ.2.2.2.2.2 ?_
  refine W.widen hcs.1 hcs.2 ?_
  exact lw_ret X.1.1 X.1.2.1 X.1.2.2.1 X.1.2.2.2.2.2.2.2.2.1 (th_da dL_end 3 rfl)
end
