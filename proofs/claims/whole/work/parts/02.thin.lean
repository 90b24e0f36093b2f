
/-! ===== the thin machine: a heap is a function of ints by cell and place, and one long ===== -/
/-- the words that last -/
def th_T : List Cond := lw_tbl.filter goodWord
theorem th_in {w : Cond} (i : Nat) (h : lw_tbl[i]? = some w) (g : goodWord w = true) : w ∈ th_T := List.mem_filter.mpr ⟨List.mem_of_getElem? h, g⟩
theorem th_in0 {w : Cond} (i : Nat) (h : (k2_sels lw_privs)[i]? = some w) (g : goodWord w = true) : w ∈ th_T := List.mem_filter.mpr ⟨List.mem_append_left _ (List.mem_of_getElem? h), g⟩
theorem th_t {w : Cond} (h : w ∈ tables_1) (g : goodWord w = true) : w ∈ th_T := List.mem_filter.mpr ⟨List.mem_append_right _ h, g⟩
theorem th_in1 {w : Cond} (i : Nat) (h : tables_1_1[i]? = some w) (g : goodWord w = true) : w ∈ th_T := th_t (List.mem_append_left _ (List.mem_of_getElem? h)) g
theorem th_in2 {w : Cond} (i : Nat) (h : tables_1_2[i]? = some w) (g : goodWord w = true) : w ∈ th_T := th_t (List.mem_append_right _ (List.mem_append_left _ (List.mem_of_getElem? h))) g
theorem th_in3 {w : Cond} (i : Nat) (h : tables_1_3[i]? = some w) (g : goodWord w = true) : w ∈ th_T := th_t (List.mem_append_right _ (List.mem_append_right _ (List.mem_append_left _ (List.mem_of_getElem? h)))) g
theorem th_in4 {w : Cond} (i : Nat) (h : tables_1_4[i]? = some w) (g : goodWord w = true) : w ∈ th_T := th_t (List.mem_append_right _ (List.mem_append_right _ (List.mem_append_right _ (List.mem_append_left _ (List.mem_of_getElem? h))))) g
theorem th_in5 {w : Cond} (i : Nat) (h : tables_1_5[i]? = some w) (g : goodWord w = true) : w ∈ th_T := th_t (List.mem_append_right _ (List.mem_append_right _ (List.mem_append_right _ (List.mem_append_right _ (List.mem_append_left _ (List.mem_of_getElem? h)))))) g
theorem th_in6 {w : Cond} (i : Nat) (h : tables_1_6[i]? = some w) (g : goodWord w = true) : w ∈ th_T := th_t (List.mem_append_right _ (List.mem_append_right _ (List.mem_append_right _ (List.mem_append_right _ (List.mem_append_right _ (List.mem_of_getElem? h)))))) g
theorem th_lay {C : String} {T : u_T} {N : Nat} (sub : List Cond) (hs : ∀ w ∈ sub, w ∈ tables_1) (ix : List Nat) (h : (List.range N).all (fun k => match ix[k]? with
  | some i => decide (sub[i]? = some (u_lay C T k)) && goodWord (u_lay C T k)
  | none => false) = true) : ∀ w ∈ u_ws C T N, w ∈ th_T := by
  intro w hw
  obtain ⟨k, hk, rfl⟩ := List.mem_map.mp hw
  have h1 := List.all_eq_true.mp h k hk
  cases hi : ix[k]? with
  | none => rw [hi] at h1; cases h1
  | some i =>
    rw [hi] at h1
    simp only [Bool.and_eq_true, decide_eq_true_eq] at h1
    exact th_t (hs _ (List.mem_of_getElem? h1.1)) h1.2
abbrev th_H : Type := (Nat → Nat → Int32) × Int64
abbrev th_L : Type := List ((Nat × Bool) ⊕ (Nat × List Nat))
def th_cv (ad : Nat → Nat) : Value → Value
  | .ref i => .ref (ad i)
  | v => v
def th_fv (ad : Nat → Nat) (h : th_H) (i k : Nat) : Nat → Value
  | 0 => .int (h.1 i k)
  | 1 => .long h.2
  | j + 2 => .ref (ad j)
def th_fL (ad : Nat → Nat) (h : th_H) (i : Nat) (fs : List Nat) : List Value := fs.mapIdx (fun k x => th_fv ad h i k x)
def th_E (cI cZ : ClassId) (ad : Nat → Nat) (h : th_H) (i : Nat) : ((Nat × Bool) ⊕ (Nat × List Nat)) → va_E
  | .inl (n, b) => .inl (if b then cZ else cI, n, .inl (h.1 i))
  | .inr (ci, fs) => .inr (ci, th_fL ad h i fs)
def th_W (cI cZ : ClassId) (ad : Nat → Nat) (L : th_L) (h : th_H) : va_W := L.mapIdx (fun i d => (ad i, th_E cI cZ ad h i d))
theorem th_W_at {cI cZ : ClassId} {ad : Nat → Nat} {L : th_L} {h : th_H} {i : Nat} {d : (Nat × Bool) ⊕ (Nat × List Nat)} (hi : L[i]? = some d) : (th_W cI cZ ad L h)[i]? = some (ad i, th_E cI cZ ad h i d) := by
  simp [th_W, List.getElem?_mapIdx, hi]
theorem th_W_len {cI cZ : ClassId} {ad : Nat → Nat} {L : th_L} {h : th_H} : (th_W cI cZ ad L h).length = L.length := by simp [th_W]
theorem th_W_of {cI cZ : ClassId} {ad : Nat → Nat} {L : th_L} {h : th_H} {i : Nat} {q : Nat × va_E} (hi : (th_W cI cZ ad L h)[i]? = some q) : i < L.length ∧ q.1 = ad i := by
  have h1 : i < (th_W cI cZ ad L h).length := (List.getElem?_eq_some_iff.mp hi).1
  rw [th_W_len] at h1
  rw [th_W_at (List.getElem?_eq_getElem h1)] at hi
  cases hi
  exact ⟨h1, rfl⟩
def th_up (h : th_H) (a k : Nat) (v : Int32) : th_H := (fun i j => if i = a then (if j = k then v else h.1 i j) else h.1 i j, h.2)
def th_ul (h : th_H) (v : Int64) : th_H := (h.1, v)
def th_cp (h : th_H) (a b n : Nat) : th_H := (fun i j => if i = b then (if j < n then h.1 a j else h.1 b j) else h.1 i j, h.2)
theorem th_ext {α : Type} {l1 l2 : List α} (h1 : ∀ i : Nat, l1[i]? = l2[i]?) : l1 = l2 := List.ext_getElem? h1
theorem th_up_ne {h : th_H} {a k i : Nat} {v : Int32} (hi : i ≠ a) : (th_up h a k v).1 i = h.1 i := by
  funext j; simp [th_up, hi]
theorem th_up_arr {h : th_H} {a k : Nat} {v : Int32} : (th_up h a k v).1 a = upd (h.1 a) k v := by
  funext j; simp [th_up, upd]
theorem th_E_ne {cI cZ : ClassId} {ad : Nat → Nat} {h h2 : th_H} {i : Nat} (h1 : h2.1 i = h.1 i) (hl : h2.2 = h.2) (d : (Nat × Bool) ⊕ (Nat × List Nat)) : th_E cI cZ ad h2 i d = th_E cI cZ ad h i d := by
  have hf : ∀ k x, th_fv ad h2 i k x = th_fv ad h i k x := by
    intro k x
    match x with
    | 0 => simp [th_fv, h1]
    | 1 => simp [th_fv, hl]
    | j + 2 => rfl
  rcases d with ⟨n, b⟩ | ⟨ci, fs⟩
  · simp [th_E, h1]
  · simp [th_E, th_fL, hf]
theorem th_W_set {cI cZ : ClassId} {ad : Nat → Nat} {L : th_L} {h h2 : th_H} {a : Nat} {d : (Nat × Bool) ⊕ (Nat × List Nat)} {E : va_E} (ha : L[a]? = some d) (hE : E = th_E cI cZ ad h2 a d) (hne : ∀ i d', i ≠ a → L[i]? = some d' → th_E cI cZ ad h2 i d' = th_E cI cZ ad h i d') :
    (th_W cI cZ ad L h).set a (ad a, E) = th_W cI cZ ad L h2 := by
  apply List.ext_getElem?
  intro i
  by_cases hi : i = a
  · subst hi
    rw [th_W_at ha, hE]
    have : i < (th_W cI cZ ad L h).length := by rw [th_W_len]; exact (List.getElem?_eq_some_iff.mp ha).1
    simp [this]
  · rw [List.getElem?_set_ne (fun q => hi q.symm)]
    cases hd : L[i]? with
    | none =>
      have h1 : L.length ≤ i := by simpa using hd
      rw [List.getElem?_eq_none (by rw [th_W_len]; exact h1), List.getElem?_eq_none (by rw [th_W_len]; exact h1)]
    | some d' => rw [th_W_at hd, th_W_at hd, hne i d' hi hd]
/-- the addresses are apart -/
def th_DD (ad : Nat → Nat) (L : th_L) : Prop := ∀ i j : Nat, i < L.length → j < L.length → ad i = ad j → i = j
/-- what a walk may write -/
def th_A (ad : Nat → Nat) (L : th_L) (sz : Nat) : Nat → Prop := fun q => (∃ i : Nat, i < L.length ∧ q = ad i) ∨ sz ≤ q
theorem th_D {cI cZ : ClassId} {ad : Nat → Nat} {L : th_L} {h : th_H} {sz : Nat} (hD : th_DD ad L) : va_D (th_A ad L sz) (th_W cI cZ ad L h) := by
  refine ⟨fun i j x y hx hy hxy => ?_, fun k q hq => ?_⟩
  · obtain ⟨i1, i2⟩ := th_W_of hx
    obtain ⟨j1, j2⟩ := th_W_of hy
    exact hD i j i1 j1 (by rw [← i2, ← j2]; exact hxy)
  · obtain ⟨i1, i2⟩ := th_W_of hq
    exact Or.inl ⟨k, i1, i2⟩
theorem th_DD_of {cI cZ : ClassId} {ad : Nat → Nat} {L : th_L} {h : th_H} {A : Nat → Prop} (hD : va_D A (th_W cI cZ ad L h)) : th_DD ad L := by
  intro i j hi hj hij
  exact hD.1 i j _ _ (th_W_at (List.getElem?_eq_getElem hi)) (th_W_at (List.getElem?_eq_getElem hj)) hij
/-- the locals: null stands for 'not set' -/
def th_LH (ad : Nat → Nat) (nL : Nat) (a : Array Slot) (ls : List Value) : Prop := a.size = nL ∧ lv_wf a ∧ ∀ (i : Nat) (v : Value), ls[i]? = some v → v ≠ .null → a[i]? = some (.val (th_cv ad v))
def th_prs (ad : Nat → Nat) (nL : Nat) (ls : List Value) : List (Nat × Value) := (List.range nL).filterMap (fun (i : Nat) => match (ls[i]? : Option Value) with
  | none => none
  | some .null => none
  | some v => some (i, th_cv ad v))
theorem th_prs_in {ad : Nat → Nat} {nL j : Nat} {ls : List Value} {v : Value} (hj : j < nL) (h : ls[j]? = some v) (hv : v ≠ .null) : (j, th_cv ad v) ∈ th_prs ad nL ls := by
  refine List.mem_filterMap.mpr ⟨j, List.mem_range.mpr hj, ?_⟩
  rw [h]
  cases v <;> first | rfl | exact absurd rfl hv
theorem th_prs_of {ad : Nat → Nat} {nL : Nat} {ls : List Value} {q : Nat × Value} (h : q ∈ th_prs ad nL ls) : ∃ v, ls[q.1]? = some v ∧ v ≠ .null ∧ q.2 = th_cv ad v := by
  obtain ⟨i, -, hi⟩ := List.mem_filterMap.mp h
  cases hl : ls[i]? with
  | none => rw [hl] at hi; cases hi
  | some v =>
    rw [hl] at hi
    cases v <;> first | (cases hi; exact ⟨_, hl, (fun q => by cases q), rfl⟩) | cases hi
theorem th_LH.has {ad : Nat → Nat} {nL : Nat} {a : Array Slot} {ls : List Value} (h : th_LH ad nL a ls) : lv_has a nL (th_prs ad nL ls) := by
  refine ⟨h.1, h.2.1, fun q hq => ?_⟩
  obtain ⟨v, h1, h2, h3⟩ := th_prs_of hq
  rw [h3]
  exact h.2.2 q.1 v h1 h2
theorem th_LH.lt {ad : Nat → Nat} {nL : Nat} {a : Array Slot} {ls : List Value} (h : th_LH ad nL a ls) {j : Nat} {v : Value} (hj : ls[j]? = some v) (hv : v ≠ .null) : j < nL := by
  have h1 := h.2.2 j v hj hv
  rw [← h.1]
  exact (Array.getElem?_eq_some_iff.mp h1).1
def th_nlb (ls : List Value) : Nat → Bool
  | 0 => true
  | j + 1 => match ls[j]? with
    | some v => v.category != 2
    | none => true
theorem th_cat (ad : Nat → Nat) (v : Value) : (th_cv ad v).category = v.category := by cases v <;> rfl
theorem th_nlb_ne {ls : List Value} {j i : Nat} {v : Value} (h : th_nlb ls i = true) (hj : ls[j]? = some v) (he : j + 1 = i) : ¬ v.category = 2 := by
  subst he
  simp [th_nlb, hj] at h
  exact h
theorem th_LH.set1 {ad : Nat → Nat} {nL i : Nat} {a a' : Array Slot} {ls : List Value} {v : Value} (h : th_LH ad nL a ls) (hn : th_nlb ls i = true)
    (h2 : lv_has a' nL ((i, th_cv ad v) :: (th_prs ad nL ls).filter (fun q => !(q.1 == i) && !(q.1 + 1 == i && q.2.category == 2)))) : th_LH ad nL a' (ls.set i v) := by
  refine ⟨h2.1, h2.2.1, fun j w hj hw => ?_⟩
  by_cases hji : j = i
  · subst hji
    have hlt : j < ls.length := by
      have := (List.getElem?_eq_some_iff.mp hj).1
      simpa using this
    rw [List.getElem?_set_self hlt] at hj
    cases hj
    exact h2.2.2 _ List.mem_cons_self
  · rw [List.getElem?_set_ne (fun q => hji q.symm)] at hj
    have h3 := th_prs_in (ad := ad) (h.lt hj hw) hj hw
    refine h2.2.2 (j, th_cv ad w) (List.mem_cons_of_mem _ (List.mem_filter.mpr ⟨h3, ?_⟩))
    have h4 : ¬ (j + 1 = i ∧ w.category = 2) := fun q => th_nlb_ne hn hj q.1 q.2
    simp only [th_cat, Bool.and_eq_true, Bool.not_eq_true', beq_eq_false_iff_ne, ne_eq, Bool.and_eq_false_iff]
    refine ⟨hji, ?_⟩
    by_cases h5 : j + 1 = i
    · exact Or.inr (fun q => h4 ⟨h5, q⟩)
    · exact Or.inl h5
theorem th_LH.set2 {ad : Nat → Nat} {nL i : Nat} {a a' : Array Slot} {ls : List Value} {x : Int64} (h : th_LH ad nL a ls) (hn : th_nlb ls i = true)
    (h2 : lv_has a' nL ((i, .long x) :: (th_prs ad nL ls).filter (fun q => !(q.1 == i) && (!(q.1 == i + 1) && !(q.1 + 1 == i && q.2.category == 2))))) : th_LH ad nL a' ((ls.set i (.long x)).set (i + 1) .null) := by
  refine ⟨h2.1, h2.2.1, fun j w hj hw => ?_⟩
  by_cases hj1 : j = i + 1
  · subst hj1
    have hlt : i + 1 < ls.length := by
      have := (List.getElem?_eq_some_iff.mp hj).1
      simpa using this
    rw [List.getElem?_set_self (by simpa using hlt)] at hj
    cases hj
    exact absurd rfl hw
  · rw [List.getElem?_set_ne (fun q => hj1 q.symm)] at hj
    by_cases hji : j = i
    · subst hji
      have hlt : j < ls.length := by
        have := (List.getElem?_eq_some_iff.mp hj).1
        simpa using this
      rw [List.getElem?_set_self hlt] at hj
      cases hj
      exact h2.2.2 _ List.mem_cons_self
    · rw [List.getElem?_set_ne (fun q => hji q.symm)] at hj
      have h3 := th_prs_in (ad := ad) (h.lt hj hw) hj hw
      refine h2.2.2 (j, th_cv ad w) (List.mem_cons_of_mem _ (List.mem_filter.mpr ⟨h3, ?_⟩))
      have h4 : ¬ (j + 1 = i ∧ w.category = 2) := fun q => th_nlb_ne hn hj q.1 q.2
      simp only [th_cat, Bool.and_eq_true, Bool.not_eq_true', beq_eq_false_iff_ne, ne_eq, Bool.and_eq_false_iff]
      refine ⟨hji, hj1, ?_⟩
      by_cases h5 : j + 1 = i
      · exact Or.inr (fun q => h4 ⟨h5, q⟩)
      · exact Or.inl h5
def th_sp : List Value → List Value
  | [] => []
  | v :: vs => if v.category = 2 then v :: .null :: th_sp vs else v :: th_sp vs
def th_ls (n : Nat) (av : List Value) : List Value := th_sp av ++ List.replicate (n - (th_sp av).length) .null
theorem th_sp_in (ad : Nat → Nat) : ∀ (av : List Value) (k i : Nat) (v : Value), (th_sp av)[i]? = some v → v ≠ .null → (k + i, th_cv ad v) ∈ lv_args k (av.map (th_cv ad))
  | [], k, i, v, h, _ => by simp [th_sp] at h
  | w :: vs, k, i, v, h, hv => by
    unfold th_sp at h
    show _ ∈ (k, th_cv ad w) :: lv_args (if (th_cv ad w).category = 2 then k + 2 else k + 1) (vs.map (th_cv ad))
    rw [th_cat]
    by_cases hc : w.category = 2
    · rw [if_pos hc] at h
      rw [if_pos hc]
      match i, h with
      | 0, h => cases h; exact List.mem_cons_self
      | 1, h => cases h; exact absurd rfl hv
      | i + 2, h =>
        have := th_sp_in ad vs (k + 2) i v (by simpa using h) hv
        rw [show k + (i + 2) = k + 2 + i by omega]
        exact List.mem_cons_of_mem _ this
    · rw [if_neg hc] at h
      rw [if_neg hc]
      match i, h with
      | 0, h => cases h; exact List.mem_cons_self
      | i + 1, h =>
        have := th_sp_in ad vs (k + 1) i v (by simpa using h) hv
        rw [show k + (i + 1) = k + 1 + i by omega]
        exact List.mem_cons_of_mem _ this
theorem th_ls_in (ad : Nat → Nat) {n : Nat} {av : List Value} {i : Nat} {v : Value} (h : (th_ls n av)[i]? = some v) (hv : v ≠ .null) : (i, th_cv ad v) ∈ lv_args 0 (av.map (th_cv ad)) := by
  unfold th_ls at h
  rcases Nat.lt_or_ge i (th_sp av).length with hl | hl
  · rw [List.getElem?_append_left hl] at h
    have := th_sp_in ad av 0 i v h hv
    simpa using this
  · rw [List.getElem?_append_right hl] at h
    have h2 := List.mem_of_getElem? h
    exact absurd (List.eq_of_mem_replicate h2) hv
theorem th_lg (ad : Nat → Nat) (av : List Value) : (lg_sl (av.map (th_cv ad))).length = (lg_sl av).length := by
  induction av with
  | nil => rfl
  | cons v vs ih =>
    simp only [lg_sl, List.map_cons, List.flatMap_cons, List.length_append, th_cat] at ih ⊢
    rw [ih]
    by_cases hc : v.category = 2
    · simp [hc]
    · simp [hc]
/-- the one link to a nest mate's method that a walk needs -/
def th_NW (U : State) : Prop := va_Nw (.methodLinkNest RX1 163 yX3_isLink "FairRates") U
/-- a method's start and end over the thin heap -/
def th_PC (D : va_G) (cI cZ : ClassId) (ad : Nat → Nat) (L : th_L) (sz : Nat) (h : th_H) (av : List Value) : Array Value → State → Prop := fun v U => v = (av.map (th_cv ad)).toArray ∧ U.heap.size = sz ∧ va_P D vwCl (th_W cI cZ ad L h) U.heap ∧ va_K D vwCl [(cI, .int), (cZ, .boolean)] U ∧ th_DD ad L ∧ th_NW U
def th_QP (D : va_G) (cI cZ : ClassId) (ad : Nat → Nat) (L : th_L) (sz : Nat) (r : Option Value) (hh : th_H) : Array Value → State → Outcome → State → Prop := fun _ st oc t => (oc = .returned (r.map (th_cv ad)) ∧ va_P D vwCl (th_W cI cZ ad L hh) t.heap) ∧ va_F (th_A ad L sz) st t
def th_MI (l : Launch) (L : th_L) (y : MethodName) (bytes : ByteArray) (maxL : Nat) (ret : Option FieldType) (F N : Nat) (av : List Value) (h : th_H) (r : Option Value) (hh : th_H) : Prop :=
  ∀ (D : va_G) (cI cZ : ClassId) (ad : Nat → Nat) (sz : Nat), Met l y (Cond.code y bytes maxL ret :: th_T) { frames := F, cells := 0, slots := 0, locals := N } (th_PC D cI cZ ad L sz h av) (th_QP D cI cZ ad L sz r hh) 0 0 (th_A ad L sz)
def th_X (p : Program) (s : State) (m : MethodId) (args : Array Value) (meth : Method) (c : Code) (D : va_G) (cI cZ : ClassId) (ad : Nat → Nat) (L : th_L) (nL : Nat) (own : String) (cc : ByteArray) (rt : Option FieldType) : Prop :=
  p.tables.exec = Jvm.exec ∧ c.code = cc ∧ c.maxLocals = nL ∧ s.vm.findClass own = some m.cls ∧ (∀ w ∈ th_T, w.before args s = true) ∧ va_K D vwCl [(cI, .int), (cZ, .boolean)] s ∧ th_DD ad L ∧ meth.locks = false ∧ meth.sig.returnType = rt ∧ th_NW s
def th_V (p : Program) (l : Launch) (e : Env) (R : Room) (s : State) (m : MethodId) (args : Array Value) (below : List Frame) (meth : Method) (c : Code) (D : va_G) (cI cZ : ClassId) (ad : Nat → Nat) (L : th_L) (nL : Nat) (r : Option Value) (hh : th_H) (pc : Nat) (ls st : List Value) (h : th_H) : Prop :=
  ∀ (H : Heap) (locs : List Loc) (a : Array Slot), va_P D vwCl (th_W cI cZ ad L h) H → va_S (th_A ad L s.heap.size) s.heap H locs → th_LH ad nL a ls → W p l e R s m args below meth c H locs 0 0 (MQ below (th_QP D cI cZ ad L s.heap.size r hh) args s 0 0 (th_A ad L s.heap.size)) (F0 m pc a (st.map (th_cv ad)))
theorem th_MI_of {l : Launch} {L : th_L} {y : MethodName} {bytes : ByteArray} {maxL : Nat} {ret : Option FieldType} {F N : Nat} {av : List Value} {h : th_H} {r : Option Value} {hh : th_H} {ls : List Value} (own : String) (hy : plainName y.cls = true) (ho : y.cls = own) (hls : th_ls maxL av = ls) (hfit : (lg_sl av).length ≤ maxL)
    (body : ∀ (p : Program) (e : Env) (s : State) (m : MethodId) (args : Array Value) (below : List Frame) (meth : Method) (c : Code) (D : va_G) (cI cZ : ClassId) (ad : Nat → Nat), th_X p s m args meth c D cI cZ ad L maxL own bytes ret → th_V p l e { frames := F, cells := 0, slots := 0, locals := N } s m args below meth c D cI cZ ad L maxL r hh 0 ls [] h) :
    th_MI l L y bytes maxL ret F N av h r hh := by
  intro D cI cZ ad sz
  refine Met.ofW (cc := bytes) (maxL := maxL) (ret := ret) hy rfl ?_
  intro p e s m args below meth c s₁ B hml hv
  obtain ⟨rfl, hsz, hP, hK, hD, hN⟩ := hv
  subst hsz
  have hts := atoms_spec (ws := Cond.code y bytes maxL ret :: th_T) B.pre
  have hX : th_X p s m (av.map (th_cv ad)).toArray meth c D cI cZ ad L maxL own bytes ret := ⟨B.exec, B.bytes, hml, ho ▸ findClass_of_methodNamed B.named, fun w hw => hts w (List.mem_cons_of_mem _ hw), hK, hD, B.notSynchronized, B.returns, hN⟩
  rw [lg_entry_eq]
  have hl := lv_entry (av.map (th_cv ad)) (n := maxL) (by rw [th_lg]; exact hfit)
  refine body p e s m _ below meth c D cI cZ ad hX s.heap [] _ hP va_S.rf ⟨hl.1, hl.2.1, fun i v hi hv => ?_⟩
  rw [← hls] at hi
  exact hl.2.2 _ (th_ls_in ad hi hv)
/-- decode rows of a method, all at once -/
def th_dec (cc : ByteArray) (t : List (Nat × Instr × Nat)) : Bool := t.all (fun q => decide (decode cc q.1 = .ok (q.2.1, q.2.2)))
theorem th_da {cc : ByteArray} {t : List (Nat × Instr × Nat)} (h : th_dec cc t = true) (k : Nat) {pc : Nat} {i : Instr} {n : Nat} (hk : t[k]? = some (pc, i, n)) : decode cc pc = .ok (i, n) := by
  have h1 := List.all_eq_true.mp h _ (List.mem_of_getElem? hk)
  simpa using h1
/-! the words of the functions that are laid out by program -/
def th_rd {α : Type} (h : th_H) (a n : Nat) (i : Int32) (k : Int32 → Option α) : Option α := if i < 0 ∨ n ≤ i.toNatClampNeg then none else k (h.1 a i.toNatClampNeg)
def th_wr {α : Type} (h : th_H) (a n : Nat) (i v : Int32) (k : th_H → Option α) : Option α := if i < 0 ∨ n ≤ i.toNatClampNeg then none else k (th_up h a i.toNatClampNeg v)
def th_dv {α : Type} (y : Int32) (x : Option α) : Option α := if y = 0 then none else x
def th_dw {α : Type} (y : Int64) (x : Option α) : Option α := if y = 0 then none else x
def th_mx (x y : Int32) : Int32 := if x < y then y else x
def th_mn (x y : Int32) : Int32 := if y < x then y else x
def th_ab (x : Int32) : Int32 := if 0 ≤ x then x else 0 - x
def th_us (x y : Int32) : Int32 := (x.toUInt32 >>> (y.toUInt32 &&& Int32.toUInt32 31)).toInt32
def th_rem (x y : Int32) : Int32 := x - x / y * y
def th_rml (x y : Int64) : Int64 := x - x / y * y
def th_gb {α : Type} (y : Int32) (x : Option α) : Option α := if y = 0 ∨ y = 1 then x else none
def th_bd {α β : Type} (x : Option (α × th_H)) (k : α → th_H → Option β) : Option β := match x with
  | none => none
  | some (a, h) => k a h
def th_st {α : Type} (h : th_H) (k : th_H → Option α) : Option α := k h
theorem th_rd_some {α : Type} {h : th_H} {a n : Nat} {i : Int32} {k : Int32 → Option α} {z : α} (q : th_rd h a n i k = some z) : ∃ v, h.1 a i.toNatClampNeg = v ∧ vp_in i n ∧ k v = some z := by
  unfold th_rd at q
  by_cases hc : i < 0 ∨ n ≤ i.toNatClampNeg
  · rw [if_pos hc] at q; cases q
  · rw [if_neg hc] at q; exact ⟨_, rfl, hc, q⟩
theorem th_wr_some {α : Type} {h : th_H} {a n : Nat} {i v : Int32} {k : th_H → Option α} {z : α} (q : th_wr h a n i v k = some z) : ∃ h2, th_up h a i.toNatClampNeg v = h2 ∧ vp_in i n ∧ k h2 = some z := by
  unfold th_wr at q
  by_cases hc : i < 0 ∨ n ≤ i.toNatClampNeg
  · rw [if_pos hc] at q; cases q
  · rw [if_neg hc] at q; exact ⟨_, rfl, hc, q⟩
theorem th_dv_some {α : Type} {y : Int32} {x : Option α} {z : α} (q : th_dv y x = some z) : ¬ y = 0 ∧ x = some z := by
  unfold th_dv at q
  by_cases hc : y = 0
  · rw [if_pos hc] at q; cases q
  · rw [if_neg hc] at q; exact ⟨hc, q⟩
theorem th_dw_some {α : Type} {y : Int64} {x : Option α} {z : α} (q : th_dw y x = some z) : ¬ y = 0 ∧ x = some z := by
  unfold th_dw at q
  by_cases hc : y = 0
  · rw [if_pos hc] at q; cases q
  · rw [if_neg hc] at q; exact ⟨hc, q⟩
theorem th_gb_some {α : Type} {y : Int32} {x : Option α} {z : α} (q : th_gb y x = some z) : (y = 0 ∨ y = 1) ∧ x = some z := by
  unfold th_gb at q
  by_cases hc : y = 0 ∨ y = 1
  · rw [if_pos hc] at q; exact ⟨hc, q⟩
  · rw [if_neg hc] at q; cases q
theorem th_bd_some {α β : Type} {x : Option (α × th_H)} {k : α → th_H → Option β} {z : β} (q : th_bd x k = some z) : ∃ a h, x = some (a, h) ∧ k a h = some z := by
  cases x with
  | none => cases q
  | some y => exact ⟨y.1, y.2, rfl, q⟩
theorem th_st_some {α : Type} {h : th_H} {k : th_H → Option α} {z : α} (q : th_st h k = some z) : ∃ h2, h = h2 ∧ k h2 = some z := ⟨h, rfl, q⟩
section ThinRows
variable {p : Program} {l : Launch} {e : Env} {R : Room} {s : State} {m : MethodId} {args : Array Value} {below : List Frame} {meth : Method} {c : Code} {D : va_G} {cI cZ : ClassId} {ad : Nat → Nat} {L : th_L} {nL : Nat} {own : String} {cc : ByteArray} {rt : Option FieldType} {r : Option Value} {hh h : th_H} {ls st : List Value} {pc : Nat}
theorem V_iconst (X : th_X p s m args meth c D cI cZ ad L nL own cc rt) {n : Int} {v : Int32} (d : decode cc pc = .ok (.iconst n, 1)) (hv : Int32.ofInt n = v) (k : th_V p l e R s m args below meth c D cI cZ ad L nL r hh (pc + 1) ls (.int v :: st) h) : th_V p l e R s m args below meth c D cI cZ ad L nL r hh pc ls (st) h := fun H locs a hP hS hl => lv_iconst X.1 X.2.1 d hv (k H locs a hP hS hl)
theorem V_bipush (X : th_X p s m args meth c D cI cZ ad L nL own cc rt) {n : Int} {v : Int32} (d : decode cc pc = .ok (.bipush n, 2)) (hv : (Int8.ofInt n).toInt32 = v) (k : th_V p l e R s m args below meth c D cI cZ ad L nL r hh (pc + 2) ls (.int v :: st) h) : th_V p l e R s m args below meth c D cI cZ ad L nL r hh pc ls (st) h := fun H locs a hP hS hl => lv_bipush X.1 X.2.1 d hv (k H locs a hP hS hl)
theorem V_sipush (X : th_X p s m args meth c D cI cZ ad L nL own cc rt) {n : Int} {v : Int32} (d : decode cc pc = .ok (.sipush n, 3)) (hv : (Int16.ofInt n).toInt32 = v) (k : th_V p l e R s m args below meth c D cI cZ ad L nL r hh (pc + 3) ls (.int v :: st) h) : th_V p l e R s m args below meth c D cI cZ ad L nL r hh pc ls (st) h := fun H locs a hP hS hl => lv_sipush X.1 X.2.1 d hv (k H locs a hP hS hl)
theorem V_lconst (X : th_X p s m args meth c D cI cZ ad L nL own cc rt) {n : Fin 2} {v : Int64} (d : decode cc pc = .ok (.lconst n, 1)) (hv : Int64.ofNat (n : Nat) = v) (k : th_V p l e R s m args below meth c D cI cZ ad L nL r hh (pc + 1) ls (.long v :: st) h) : th_V p l e R s m args below meth c D cI cZ ad L nL r hh pc ls (st) h := fun H locs a hP hS hl => lv_lconst X.1 X.2.1 d hv (k H locs a hP hS hl)
theorem V_ldc (X : th_X p s m args meth c D cI cZ ad L nL own cc rt) {index : Nat} {v : Int32} (d : decode cc pc = .ok (.ldc index, 2)) (w : Cond.constant own index v ∈ th_T) (k : th_V p l e R s m args below meth c D cI cZ ad L nL r hh (pc + 2) ls (.int v :: st) h) : th_V p l e R s m args below meth c D cI cZ ad L nL r hh pc ls (st) h := fun H locs a hP hS hl => lv_ldc X.1 X.2.1 X.2.2.2.1 (X.2.2.2.2.1 _ w) d (k H locs a hP hS hl)
theorem V_ldcw (X : th_X p s m args meth c D cI cZ ad L nL own cc rt) {index : Nat} {v : Int32} (d : decode cc pc = .ok (.ldc_w index, 3)) (w : Cond.constant own index v ∈ th_T) (k : th_V p l e R s m args below meth c D cI cZ ad L nL r hh (pc + 3) ls (.int v :: st) h) : th_V p l e R s m args below meth c D cI cZ ad L nL r hh pc ls (st) h := fun H locs a hP hS hl => lv_ldcw X.1 X.2.1 X.2.2.2.1 (X.2.2.2.2.1 _ w) d (k H locs a hP hS hl)
theorem V_ldc2 (X : th_X p s m args meth c D cI cZ ad L nL own cc rt) {index : Nat} {v : Int64} (d : decode cc pc = .ok (.ldc2_w index, 3)) (w : Cond.constantLong own index v ∈ th_T) (k : th_V p l e R s m args below meth c D cI cZ ad L nL r hh (pc + 3) ls (.long v :: st) h) : th_V p l e R s m args below meth c D cI cZ ad L nL r hh pc ls (st) h := fun H locs a hP hS hl => lv_ldc2 X.1 X.2.1 X.2.2.2.1 (X.2.2.2.2.1 _ w) d (k H locs a hP hS hl)
theorem V_iload_n (X : th_X p s m args meth c D cI cZ ad L nL own cc rt) {q : Fin 4} {x : Int32} (d : decode cc pc = .ok (.iload_n q, 1)) (g : ls[(q : Nat)]? = some (.int x)) (k : th_V p l e R s m args below meth c D cI cZ ad L nL r hh (pc + 1) ls (.int x :: st) h) : th_V p l e R s m args below meth c D cI cZ ad L nL r hh pc ls (st) h := fun H locs a hP hS hl => lv_iload_n X.1 X.2.1 d rfl (hl.2.2 _ _ g (fun z => by cases z)) (k H locs a hP hS hl)
theorem V_iload (X : th_X p s m args meth c D cI cZ ad L nL own cc rt) {i : Nat} {x : Int32} (d : decode cc pc = .ok (.iload i, 2)) (g : ls[i]? = some (.int x)) (k : th_V p l e R s m args below meth c D cI cZ ad L nL r hh (pc + 2) ls (.int x :: st) h) : th_V p l e R s m args below meth c D cI cZ ad L nL r hh pc ls (st) h := fun H locs a hP hS hl => lv_iload X.1 X.2.1 d (hl.2.2 _ _ g (fun z => by cases z)) (k H locs a hP hS hl)
theorem V_lload_n (X : th_X p s m args meth c D cI cZ ad L nL own cc rt) {q : Fin 4} {x : Int64} (d : decode cc pc = .ok (.lload_n q, 1)) (g : ls[(q : Nat)]? = some (.long x)) (k : th_V p l e R s m args below meth c D cI cZ ad L nL r hh (pc + 1) ls (.long x :: st) h) : th_V p l e R s m args below meth c D cI cZ ad L nL r hh pc ls (st) h := fun H locs a hP hS hl => lv_lload_n X.1 X.2.1 d rfl (hl.2.2 _ _ g (fun z => by cases z)) (k H locs a hP hS hl)
theorem V_lload (X : th_X p s m args meth c D cI cZ ad L nL own cc rt) {i : Nat} {x : Int64} (d : decode cc pc = .ok (.lload i, 2)) (g : ls[i]? = some (.long x)) (k : th_V p l e R s m args below meth c D cI cZ ad L nL r hh (pc + 2) ls (.long x :: st) h) : th_V p l e R s m args below meth c D cI cZ ad L nL r hh pc ls (st) h := fun H locs a hP hS hl => lv_lload X.1 X.2.1 d (hl.2.2 _ _ g (fun z => by cases z)) (k H locs a hP hS hl)
theorem V_aload_n (X : th_X p s m args meth c D cI cZ ad L nL own cc rt) {q : Fin 4} {x : Nat} (d : decode cc pc = .ok (.aload_n q, 1)) (g : ls[(q : Nat)]? = some (.ref x)) (k : th_V p l e R s m args below meth c D cI cZ ad L nL r hh (pc + 1) ls (.ref x :: st) h) : th_V p l e R s m args below meth c D cI cZ ad L nL r hh pc ls (st) h := fun H locs a hP hS hl => lv_aload_n X.1 X.2.1 d rfl (hl.2.2 _ _ g (fun z => by cases z)) (k H locs a hP hS hl)
theorem V_aload (X : th_X p s m args meth c D cI cZ ad L nL own cc rt) {i : Nat} {x : Nat} (d : decode cc pc = .ok (.aload i, 2)) (g : ls[i]? = some (.ref x)) (k : th_V p l e R s m args below meth c D cI cZ ad L nL r hh (pc + 2) ls (.ref x :: st) h) : th_V p l e R s m args below meth c D cI cZ ad L nL r hh pc ls (st) h := fun H locs a hP hS hl => lv_aload X.1 X.2.1 d (hl.2.2 _ _ g (fun z => by cases z)) (k H locs a hP hS hl)
theorem V_istore_n (X : th_X p s m args meth c D cI cZ ad L nL own cc rt) {q : Fin 4} {x : Int32} (d : decode cc pc = .ok (.istore_n q, 1)) (hn : (q : Nat) < nL) (hb : th_nlb ls (q : Nat) = true) {ls2 : List Value} (g : ls.set (q : Nat) (.int x) = ls2) (k : th_V p l e R s m args below meth c D cI cZ ad L nL r hh (pc + 1) ls2 st h) : th_V p l e R s m args below meth c D cI cZ ad L nL r hh pc ls (.int x :: st) h := fun H locs a hP hS hl => lv_istore_n X.1 X.2.1 d rfl hl.has hn rfl (fun a2 hl2 => k H locs a2 hP hS (g ▸ hl.set1 (v := .int x) hb hl2))
theorem V_istore (X : th_X p s m args meth c D cI cZ ad L nL own cc rt) {i : Nat} {x : Int32} (d : decode cc pc = .ok (.istore i, 2)) (hn : i < nL) (hb : th_nlb ls i = true) {ls2 : List Value} (g : ls.set i (.int x) = ls2) (k : th_V p l e R s m args below meth c D cI cZ ad L nL r hh (pc + 2) ls2 st h) : th_V p l e R s m args below meth c D cI cZ ad L nL r hh pc ls (.int x :: st) h := fun H locs a hP hS hl => lv_istore X.1 X.2.1 d hl.has hn rfl (fun a2 hl2 => k H locs a2 hP hS (g ▸ hl.set1 (v := .int x) hb hl2))
theorem V_astore_n (X : th_X p s m args meth c D cI cZ ad L nL own cc rt) {q : Fin 4} {x : Nat} (d : decode cc pc = .ok (.astore_n q, 1)) (hn : (q : Nat) < nL) (hb : th_nlb ls (q : Nat) = true) {ls2 : List Value} (g : ls.set (q : Nat) (.ref x) = ls2) (k : th_V p l e R s m args below meth c D cI cZ ad L nL r hh (pc + 1) ls2 st h) : th_V p l e R s m args below meth c D cI cZ ad L nL r hh pc ls (.ref x :: st) h := fun H locs a hP hS hl => lv_astore_n X.1 X.2.1 d rfl hl.has hn rfl (fun a2 hl2 => k H locs a2 hP hS (g ▸ hl.set1 (v := .ref x) hb hl2))
theorem V_astore (X : th_X p s m args meth c D cI cZ ad L nL own cc rt) {i : Nat} {x : Nat} (d : decode cc pc = .ok (.astore i, 2)) (hn : i < nL) (hb : th_nlb ls i = true) {ls2 : List Value} (g : ls.set i (.ref x) = ls2) (k : th_V p l e R s m args below meth c D cI cZ ad L nL r hh (pc + 2) ls2 st h) : th_V p l e R s m args below meth c D cI cZ ad L nL r hh pc ls (.ref x :: st) h := fun H locs a hP hS hl => lv_astore X.1 X.2.1 d hl.has hn rfl (fun a2 hl2 => k H locs a2 hP hS (g ▸ hl.set1 (v := .ref x) hb hl2))
theorem V_lstore_n (X : th_X p s m args meth c D cI cZ ad L nL own cc rt) {q : Fin 4} {x : Int64} (d : decode cc pc = .ok (.lstore_n q, 1)) (hn : (q : Nat) + 1 < nL) (hb : th_nlb ls (q : Nat) = true) {ls2 : List Value} (g : (ls.set (q : Nat) (.long x)).set ((q : Nat) + 1) .null = ls2) (k : th_V p l e R s m args below meth c D cI cZ ad L nL r hh (pc + 1) ls2 st h) : th_V p l e R s m args below meth c D cI cZ ad L nL r hh pc ls (.long x :: st) h := fun H locs a hP hS hl => lv_lstore_n X.1 X.2.1 d rfl hl.has hn rfl (fun a2 hl2 => k H locs a2 hP hS (g ▸ hl.set2 hb hl2))
theorem V_lstore (X : th_X p s m args meth c D cI cZ ad L nL own cc rt) {i : Nat} {x : Int64} (d : decode cc pc = .ok (.lstore i, 2)) (hn : i + 1 < nL) (hb : th_nlb ls i = true) {ls2 : List Value} (g : (ls.set i (.long x)).set (i + 1) .null = ls2) (k : th_V p l e R s m args below meth c D cI cZ ad L nL r hh (pc + 2) ls2 st h) : th_V p l e R s m args below meth c D cI cZ ad L nL r hh pc ls (.long x :: st) h := fun H locs a hP hS hl => lv_lstore X.1 X.2.1 d hl.has hn rfl (fun a2 hl2 => k H locs a2 hP hS (g ▸ hl.set2 hb hl2))
theorem V_iinc (X : th_X p s m args meth c D cI cZ ad L nL own cc rt) {i : Nat} {n : Int} {x v : Int32} (d : decode cc pc = .ok (.iinc i n, 3)) (g0 : ls[i]? = some (.int x)) (hv : x + Int32.ofInt n = v) (hn : i < nL) (hb : th_nlb ls i = true) {ls2 : List Value} (g : ls.set i (.int v) = ls2) (k : th_V p l e R s m args below meth c D cI cZ ad L nL r hh (pc + 3) ls2 st h) : th_V p l e R s m args below meth c D cI cZ ad L nL r hh pc ls st h := by
  intro H locs a hP hS hl
  obtain ⟨j, hj⟩ := List.getElem?_of_mem (th_prs_in (ad := ad) hn g0 (fun z => by cases z))
  exact lv_iinc X.1 X.2.1 d hl.has hj hv hn rfl (fun a2 hl2 => k H locs a2 hP hS (g ▸ hl.set1 (v := .int v) hb hl2))
theorem V_iadd (X : th_X p s m args meth c D cI cZ ad L nL own cc rt) {x y : Int32} (d : decode cc pc = .ok (.iadd, 1))  (k : th_V p l e R s m args below meth c D cI cZ ad L nL r hh (pc + 1) ls (.int (x + y) :: st) h) : th_V p l e R s m args below meth c D cI cZ ad L nL r hh pc ls (.int y :: .int x :: st) h := fun H locs a hP hS hl => lv_iadd X.1 X.2.1 d (k H locs a hP hS hl)
theorem V_isub (X : th_X p s m args meth c D cI cZ ad L nL own cc rt) {x y : Int32} (d : decode cc pc = .ok (.isub, 1))  (k : th_V p l e R s m args below meth c D cI cZ ad L nL r hh (pc + 1) ls (.int (x - y) :: st) h) : th_V p l e R s m args below meth c D cI cZ ad L nL r hh pc ls (.int y :: .int x :: st) h := fun H locs a hP hS hl => lv_isub X.1 X.2.1 d (k H locs a hP hS hl)
theorem V_imul (X : th_X p s m args meth c D cI cZ ad L nL own cc rt) {x y : Int32} (d : decode cc pc = .ok (.imul, 1))  (k : th_V p l e R s m args below meth c D cI cZ ad L nL r hh (pc + 1) ls (.int (x * y) :: st) h) : th_V p l e R s m args below meth c D cI cZ ad L nL r hh pc ls (.int y :: .int x :: st) h := fun H locs a hP hS hl => lv_imul X.1 X.2.1 d (k H locs a hP hS hl)
theorem V_iand (X : th_X p s m args meth c D cI cZ ad L nL own cc rt) {x y : Int32} (d : decode cc pc = .ok (.iand, 1))  (k : th_V p l e R s m args below meth c D cI cZ ad L nL r hh (pc + 1) ls (.int (x &&& y) :: st) h) : th_V p l e R s m args below meth c D cI cZ ad L nL r hh pc ls (.int y :: .int x :: st) h := fun H locs a hP hS hl => lv_iand X.1 X.2.1 d (k H locs a hP hS hl)
theorem V_ior (X : th_X p s m args meth c D cI cZ ad L nL own cc rt) {x y : Int32} (d : decode cc pc = .ok (.ior, 1))  (k : th_V p l e R s m args below meth c D cI cZ ad L nL r hh (pc + 1) ls (.int (x ||| y) :: st) h) : th_V p l e R s m args below meth c D cI cZ ad L nL r hh pc ls (.int y :: .int x :: st) h := fun H locs a hP hS hl => lv_ior X.1 X.2.1 d (k H locs a hP hS hl)
theorem V_ixor (X : th_X p s m args meth c D cI cZ ad L nL own cc rt) {x y : Int32} (d : decode cc pc = .ok (.ixor, 1))  (k : th_V p l e R s m args below meth c D cI cZ ad L nL r hh (pc + 1) ls (.int (x ^^^ y) :: st) h) : th_V p l e R s m args below meth c D cI cZ ad L nL r hh pc ls (.int y :: .int x :: st) h := fun H locs a hP hS hl => lv_ixor X.1 X.2.1 d (k H locs a hP hS hl)
theorem V_ishl (X : th_X p s m args meth c D cI cZ ad L nL own cc rt) {x y : Int32} (d : decode cc pc = .ok (.ishl, 1))  (k : th_V p l e R s m args below meth c D cI cZ ad L nL r hh (pc + 1) ls (.int (x <<< (y &&& 31)) :: st) h) : th_V p l e R s m args below meth c D cI cZ ad L nL r hh pc ls (.int y :: .int x :: st) h := fun H locs a hP hS hl => lv_ishl X.1 X.2.1 d (k H locs a hP hS hl)
theorem V_ishr (X : th_X p s m args meth c D cI cZ ad L nL own cc rt) {x y : Int32} (d : decode cc pc = .ok (.ishr, 1))  (k : th_V p l e R s m args below meth c D cI cZ ad L nL r hh (pc + 1) ls (.int (x >>> (y &&& 31)) :: st) h) : th_V p l e R s m args below meth c D cI cZ ad L nL r hh pc ls (.int y :: .int x :: st) h := fun H locs a hP hS hl => lv_ishr X.1 X.2.1 d (k H locs a hP hS hl)
theorem V_iushr (X : th_X p s m args meth c D cI cZ ad L nL own cc rt) {x y v : Int32} (d : decode cc pc = .ok (.iushr, 1)) (hv : (x.toUInt32 >>> (y.toUInt32 &&& Int32.toUInt32 31)).toInt32 = v) (k : th_V p l e R s m args below meth c D cI cZ ad L nL r hh (pc + 1) ls (.int v :: st) h) : th_V p l e R s m args below meth c D cI cZ ad L nL r hh pc ls (.int y :: .int x :: st) h := fun H locs a hP hS hl => lv_iushr X.1 X.2.1 d hv (k H locs a hP hS hl)
theorem V_idiv (X : th_X p s m args meth c D cI cZ ad L nL own cc rt) {x y : Int32} (d : decode cc pc = .ok (.idiv, 1)) (hne : ¬ y = 0) (k : th_V p l e R s m args below meth c D cI cZ ad L nL r hh (pc + 1) ls (.int (x / y) :: st) h) : th_V p l e R s m args below meth c D cI cZ ad L nL r hh pc ls (.int y :: .int x :: st) h := fun H locs a hP hS hl => lv_idiv X.1 X.2.1 d hne (k H locs a hP hS hl)
theorem V_irem (X : th_X p s m args meth c D cI cZ ad L nL own cc rt) {x y : Int32} (d : decode cc pc = .ok (.irem, 1)) (hne : ¬ y = 0) (k : th_V p l e R s m args below meth c D cI cZ ad L nL r hh (pc + 1) ls (.int (th_rem x y) :: st) h) : th_V p l e R s m args below meth c D cI cZ ad L nL r hh pc ls (.int y :: .int x :: st) h := fun H locs a hP hS hl => lv_irem X.1 X.2.1 d hne (k H locs a hP hS hl)
theorem V_ineg (X : th_X p s m args meth c D cI cZ ad L nL own cc rt) {x : Int32} (d : decode cc pc = .ok (.ineg, 1))  (k : th_V p l e R s m args below meth c D cI cZ ad L nL r hh (pc + 1) ls (.int (-x) :: st) h) : th_V p l e R s m args below meth c D cI cZ ad L nL r hh pc ls (.int x :: st) h := fun H locs a hP hS hl => lv_ineg X.1 X.2.1 d (k H locs a hP hS hl)
theorem V_ladd (X : th_X p s m args meth c D cI cZ ad L nL own cc rt) {x y : Int64} (d : decode cc pc = .ok (.ladd, 1))  (k : th_V p l e R s m args below meth c D cI cZ ad L nL r hh (pc + 1) ls (.long (x + y) :: st) h) : th_V p l e R s m args below meth c D cI cZ ad L nL r hh pc ls (.long y :: .long x :: st) h := fun H locs a hP hS hl => lv_ladd X.1 X.2.1 d (k H locs a hP hS hl)
theorem V_lsub (X : th_X p s m args meth c D cI cZ ad L nL own cc rt) {x y : Int64} (d : decode cc pc = .ok (.lsub, 1))  (k : th_V p l e R s m args below meth c D cI cZ ad L nL r hh (pc + 1) ls (.long (x - y) :: st) h) : th_V p l e R s m args below meth c D cI cZ ad L nL r hh pc ls (.long y :: .long x :: st) h := fun H locs a hP hS hl => lv_lsub X.1 X.2.1 d (k H locs a hP hS hl)
theorem V_lmul (X : th_X p s m args meth c D cI cZ ad L nL own cc rt) {x y : Int64} (d : decode cc pc = .ok (.lmul, 1))  (k : th_V p l e R s m args below meth c D cI cZ ad L nL r hh (pc + 1) ls (.long (x * y) :: st) h) : th_V p l e R s m args below meth c D cI cZ ad L nL r hh pc ls (.long y :: .long x :: st) h := fun H locs a hP hS hl => lv_lmul X.1 X.2.1 d (k H locs a hP hS hl)
theorem V_ldiv (X : th_X p s m args meth c D cI cZ ad L nL own cc rt) {x y : Int64} (d : decode cc pc = .ok (.ldiv, 1)) (hne : ¬ y = 0) (k : th_V p l e R s m args below meth c D cI cZ ad L nL r hh (pc + 1) ls (.long (x / y) :: st) h) : th_V p l e R s m args below meth c D cI cZ ad L nL r hh pc ls (.long y :: .long x :: st) h := fun H locs a hP hS hl => lv_ldiv X.1 X.2.1 d hne (k H locs a hP hS hl)
theorem V_lrem (X : th_X p s m args meth c D cI cZ ad L nL own cc rt) {x y : Int64} (d : decode cc pc = .ok (.lrem, 1)) (hne : ¬ y = 0) (k : th_V p l e R s m args below meth c D cI cZ ad L nL r hh (pc + 1) ls (.long (th_rml x y) :: st) h) : th_V p l e R s m args below meth c D cI cZ ad L nL r hh pc ls (.long y :: .long x :: st) h := fun H locs a hP hS hl => lv_lrem X.1 X.2.1 d hne (k H locs a hP hS hl)
theorem V_lcmp (X : th_X p s m args meth c D cI cZ ad L nL own cc rt) {x y : Int64} (d : decode cc pc = .ok (.lcmp, 1))  (k : th_V p l e R s m args below meth c D cI cZ ad L nL r hh (pc + 1) ls (.int (lg_cmp x y) :: st) h) : th_V p l e R s m args below meth c D cI cZ ad L nL r hh pc ls (.long y :: .long x :: st) h := fun H locs a hP hS hl => W.lcmp X.1 X.2.1 d (k H locs a hP hS hl)
theorem V_i2l (X : th_X p s m args meth c D cI cZ ad L nL own cc rt) {x : Int32} (d : decode cc pc = .ok (.i2l, 1))  (k : th_V p l e R s m args below meth c D cI cZ ad L nL r hh (pc + 1) ls (.long x.toInt64 :: st) h) : th_V p l e R s m args below meth c D cI cZ ad L nL r hh pc ls (.int x :: st) h := fun H locs a hP hS hl => lv_i2l X.1 X.2.1 d rfl (k H locs a hP hS hl)
theorem V_l2i (X : th_X p s m args meth c D cI cZ ad L nL own cc rt) {x : Int64} (d : decode cc pc = .ok (.l2i, 1))  (k : th_V p l e R s m args below meth c D cI cZ ad L nL r hh (pc + 1) ls (.int x.toInt32 :: st) h) : th_V p l e R s m args below meth c D cI cZ ad L nL r hh pc ls (.long x :: st) h := fun H locs a hP hS hl => lv_l2i X.1 X.2.1 d rfl (k H locs a hP hS hl)
theorem V_dup (X : th_X p s m args meth c D cI cZ ad L nL own cc rt) {v : Value} (d : decode cc pc = .ok (.dup, 1)) (hv : v.category = 1) (k : th_V p l e R s m args below meth c D cI cZ ad L nL r hh (pc + 1) ls (v :: v :: st) h) : th_V p l e R s m args below meth c D cI cZ ad L nL r hh pc ls (v :: st) h := fun H locs a hP hS hl => lv_dup X.1 X.2.1 d ((th_cat ad v).trans hv) (k H locs a hP hS hl)
theorem V_pop (X : th_X p s m args meth c D cI cZ ad L nL own cc rt) {v : Value} (d : decode cc pc = .ok (.pop, 1)) (hv : v.category = 1) (k : th_V p l e R s m args below meth c D cI cZ ad L nL r hh (pc + 1) ls (st) h) : th_V p l e R s m args below meth c D cI cZ ad L nL r hh pc ls (v :: st) h := fun H locs a hP hS hl => lv_pop X.1 X.2.1 d ((th_cat ad v).trans hv) (k H locs a hP hS hl)
theorem V_dup2 (X : th_X p s m args meth c D cI cZ ad L nL own cc rt) {v w : Value} (d : decode cc pc = .ok (.dup2, 1)) (hv : v.category = 1) (hw : w.category = 1) (k : th_V p l e R s m args below meth c D cI cZ ad L nL r hh (pc + 1) ls (v :: w :: v :: w :: st) h) : th_V p l e R s m args below meth c D cI cZ ad L nL r hh pc ls (v :: w :: st) h := fun H locs a hP hS hl => lv_dup2_11 X.1 X.2.1 d ((th_cat ad v).trans hv) ((th_cat ad w).trans hw) (k H locs a hP hS hl)
theorem V_goto (X : th_X p s m args meth c D cI cZ ad L nL own cc rt) {off : Int} (d : decode cc pc = .ok (.goto off, 3)) {tgt : Nat} (ht : (pc : Int) + off = (tgt : Int)) (k : th_V p l e R s m args below meth c D cI cZ ad L nL r hh tgt ls st h) : th_V p l e R s m args below meth c D cI cZ ad L nL r hh pc ls st h := fun H locs a hP hS hl => lv_goto X.1 X.2.1 d ht (k H locs a hP hS hl)
theorem V_icmp_eq (X : th_X p s m args meth c D cI cZ ad L nL own cc rt) {x y : Int32} {off : Int} {tgt : Nat} (d : decode cc pc = .ok (.if_icmp .eq off, 3)) (ht : (pc : Int) + off = (tgt : Int)) (kt : x = y → th_V p l e R s m args below meth c D cI cZ ad L nL r hh tgt ls st h) (kf : ¬ x = y → th_V p l e R s m args below meth c D cI cZ ad L nL r hh (pc + 3) ls st h) : th_V p l e R s m args below meth c D cI cZ ad L nL r hh pc ls (.int y :: .int x :: st) h := fun H locs a hP hS hl => lv_icmp_eq X.1 X.2.1 d ht (fun z => kt (z) H locs a hP hS hl) (fun z => kf (z) H locs a hP hS hl)
theorem V_icmp_ne (X : th_X p s m args meth c D cI cZ ad L nL own cc rt) {x y : Int32} {off : Int} {tgt : Nat} (d : decode cc pc = .ok (.if_icmp .ne off, 3)) (ht : (pc : Int) + off = (tgt : Int)) (kt : x = y → th_V p l e R s m args below meth c D cI cZ ad L nL r hh (pc + 3) ls st h) (kf : ¬ x = y → th_V p l e R s m args below meth c D cI cZ ad L nL r hh tgt ls st h) : th_V p l e R s m args below meth c D cI cZ ad L nL r hh pc ls (.int y :: .int x :: st) h := fun H locs a hP hS hl => lv_icmp_ne X.1 X.2.1 d ht (fun z => kf (z) H locs a hP hS hl) (fun z => kt (z) H locs a hP hS hl)
theorem V_icmp_lt (X : th_X p s m args meth c D cI cZ ad L nL own cc rt) {x y : Int32} {off : Int} {tgt : Nat} (d : decode cc pc = .ok (.if_icmp .lt off, 3)) (ht : (pc : Int) + off = (tgt : Int)) (kt : x < y → th_V p l e R s m args below meth c D cI cZ ad L nL r hh tgt ls st h) (kf : ¬ x < y → th_V p l e R s m args below meth c D cI cZ ad L nL r hh (pc + 3) ls st h) : th_V p l e R s m args below meth c D cI cZ ad L nL r hh pc ls (.int y :: .int x :: st) h := fun H locs a hP hS hl => lv_icmp_lt X.1 X.2.1 d ht (fun z => kt (z) H locs a hP hS hl) (fun z => kf (z) H locs a hP hS hl)
theorem V_icmp_ge (X : th_X p s m args meth c D cI cZ ad L nL own cc rt) {x y : Int32} {off : Int} {tgt : Nat} (d : decode cc pc = .ok (.if_icmp .ge off, 3)) (ht : (pc : Int) + off = (tgt : Int)) (kt : x < y → th_V p l e R s m args below meth c D cI cZ ad L nL r hh (pc + 3) ls st h) (kf : ¬ x < y → th_V p l e R s m args below meth c D cI cZ ad L nL r hh tgt ls st h) : th_V p l e R s m args below meth c D cI cZ ad L nL r hh pc ls (.int y :: .int x :: st) h := fun H locs a hP hS hl => lv_icmp_ge X.1 X.2.1 d ht (fun z => kf (Int32.not_lt.mpr z) H locs a hP hS hl) (fun z => kt (Int32.not_le.mp z) H locs a hP hS hl)
theorem V_icmp_gt (X : th_X p s m args meth c D cI cZ ad L nL own cc rt) {x y : Int32} {off : Int} {tgt : Nat} (d : decode cc pc = .ok (.if_icmp .gt off, 3)) (ht : (pc : Int) + off = (tgt : Int)) (kt : y < x → th_V p l e R s m args below meth c D cI cZ ad L nL r hh tgt ls st h) (kf : ¬ y < x → th_V p l e R s m args below meth c D cI cZ ad L nL r hh (pc + 3) ls st h) : th_V p l e R s m args below meth c D cI cZ ad L nL r hh pc ls (.int y :: .int x :: st) h := fun H locs a hP hS hl => lv_icmp_gt X.1 X.2.1 d ht (fun z => kt (z) H locs a hP hS hl) (fun z => kf (z) H locs a hP hS hl)
theorem V_icmp_le (X : th_X p s m args meth c D cI cZ ad L nL own cc rt) {x y : Int32} {off : Int} {tgt : Nat} (d : decode cc pc = .ok (.if_icmp .le off, 3)) (ht : (pc : Int) + off = (tgt : Int)) (kt : y < x → th_V p l e R s m args below meth c D cI cZ ad L nL r hh (pc + 3) ls st h) (kf : ¬ y < x → th_V p l e R s m args below meth c D cI cZ ad L nL r hh tgt ls st h) : th_V p l e R s m args below meth c D cI cZ ad L nL r hh pc ls (.int y :: .int x :: st) h := fun H locs a hP hS hl => lv_icmp_le X.1 X.2.1 d ht (fun z => kf (Int32.not_lt.mpr z) H locs a hP hS hl) (fun z => kt (Int32.not_le.mp z) H locs a hP hS hl)
theorem V_if_eq (X : th_X p s m args meth c D cI cZ ad L nL own cc rt) {x : Int32} {off : Int} {tgt : Nat} (d : decode cc pc = .ok (.ifCond .eq off, 3)) (ht : (pc : Int) + off = (tgt : Int)) (kt : x = 0 → th_V p l e R s m args below meth c D cI cZ ad L nL r hh tgt ls st h) (kf : ¬ x = 0 → th_V p l e R s m args below meth c D cI cZ ad L nL r hh (pc + 3) ls st h) : th_V p l e R s m args below meth c D cI cZ ad L nL r hh pc ls (.int x :: st) h := fun H locs a hP hS hl => lv_if_eq X.1 X.2.1 d ht (fun z => kt (z) H locs a hP hS hl) (fun z => kf (z) H locs a hP hS hl)
theorem V_if_ne (X : th_X p s m args meth c D cI cZ ad L nL own cc rt) {x : Int32} {off : Int} {tgt : Nat} (d : decode cc pc = .ok (.ifCond .ne off, 3)) (ht : (pc : Int) + off = (tgt : Int)) (kt : x = 0 → th_V p l e R s m args below meth c D cI cZ ad L nL r hh (pc + 3) ls st h) (kf : ¬ x = 0 → th_V p l e R s m args below meth c D cI cZ ad L nL r hh tgt ls st h) : th_V p l e R s m args below meth c D cI cZ ad L nL r hh pc ls (.int x :: st) h := fun H locs a hP hS hl => lv_if_ne X.1 X.2.1 d ht (fun z => kf (z) H locs a hP hS hl) (fun z => kt (z) H locs a hP hS hl)
theorem V_if_lt (X : th_X p s m args meth c D cI cZ ad L nL own cc rt) {x : Int32} {off : Int} {tgt : Nat} (d : decode cc pc = .ok (.ifCond .lt off, 3)) (ht : (pc : Int) + off = (tgt : Int)) (kt : x < 0 → th_V p l e R s m args below meth c D cI cZ ad L nL r hh tgt ls st h) (kf : ¬ x < 0 → th_V p l e R s m args below meth c D cI cZ ad L nL r hh (pc + 3) ls st h) : th_V p l e R s m args below meth c D cI cZ ad L nL r hh pc ls (.int x :: st) h := fun H locs a hP hS hl => lv_if_lt X.1 X.2.1 d ht (fun z => kt (z) H locs a hP hS hl) (fun z => kf (z) H locs a hP hS hl)
theorem V_if_ge (X : th_X p s m args meth c D cI cZ ad L nL own cc rt) {x : Int32} {off : Int} {tgt : Nat} (d : decode cc pc = .ok (.ifCond .ge off, 3)) (ht : (pc : Int) + off = (tgt : Int)) (kt : x < 0 → th_V p l e R s m args below meth c D cI cZ ad L nL r hh (pc + 3) ls st h) (kf : ¬ x < 0 → th_V p l e R s m args below meth c D cI cZ ad L nL r hh tgt ls st h) : th_V p l e R s m args below meth c D cI cZ ad L nL r hh pc ls (.int x :: st) h := fun H locs a hP hS hl => lv_if_ge X.1 X.2.1 d ht (fun z => kf (Int32.not_lt.mpr z) H locs a hP hS hl) (fun z => kt (Int32.not_le.mp z) H locs a hP hS hl)
theorem V_if_gt (X : th_X p s m args meth c D cI cZ ad L nL own cc rt) {x : Int32} {off : Int} {tgt : Nat} (d : decode cc pc = .ok (.ifCond .gt off, 3)) (ht : (pc : Int) + off = (tgt : Int)) (kt : 0 < x → th_V p l e R s m args below meth c D cI cZ ad L nL r hh tgt ls st h) (kf : ¬ 0 < x → th_V p l e R s m args below meth c D cI cZ ad L nL r hh (pc + 3) ls st h) : th_V p l e R s m args below meth c D cI cZ ad L nL r hh pc ls (.int x :: st) h := fun H locs a hP hS hl => lv_if_gt X.1 X.2.1 d ht (fun z => kt (z) H locs a hP hS hl) (fun z => kf (z) H locs a hP hS hl)
theorem V_if_le (X : th_X p s m args meth c D cI cZ ad L nL own cc rt) {x : Int32} {off : Int} {tgt : Nat} (d : decode cc pc = .ok (.ifCond .le off, 3)) (ht : (pc : Int) + off = (tgt : Int)) (kt : 0 < x → th_V p l e R s m args below meth c D cI cZ ad L nL r hh (pc + 3) ls st h) (kf : ¬ 0 < x → th_V p l e R s m args below meth c D cI cZ ad L nL r hh tgt ls st h) : th_V p l e R s m args below meth c D cI cZ ad L nL r hh pc ls (.int x :: st) h := fun H locs a hP hS hl => lv_if_le X.1 X.2.1 d ht (fun z => kf (Int32.not_lt.mpr z) H locs a hP hS hl) (fun z => kt (Int32.not_le.mp z) H locs a hP hS hl)
theorem V_tabIn (X : th_X p s m args meth c D cI cZ ad L nL own cc rt) {dflt lo hi off : Int} {offs : Array Int} {len tgt : Nat} {x q : Int32} (d : decode cc pc = .ok (.tableswitch dflt lo hi offs, len)) (hx : x = q) (h1 : ¬ q.toInt < lo) (h2 : ¬ hi < q.toInt) (ho : offs[(q.toInt - lo).toNat]? = some off) (ht : (pc : Int) + off = (tgt : Int)) (k : th_V p l e R s m args below meth c D cI cZ ad L nL r hh tgt ls st h) : th_V p l e R s m args below meth c D cI cZ ad L nL r hh pc ls (.int x :: st) h := fun H locs a hP hS hl => lv_tableIn X.1 X.2.1 d (hx ▸ h1) (hx ▸ h2) (hx ▸ ho) ht (k H locs a hP hS hl)
theorem V_tabOut (X : th_X p s m args meth c D cI cZ ad L nL own cc rt) {dflt lo hi : Int} {offs : Array Int} {len tgt : Nat} {x : Int32} (d : decode cc pc = .ok (.tableswitch dflt lo hi offs, len)) (h1 : x.toInt < lo ∨ hi < x.toInt) (ht : (pc : Int) + dflt = (tgt : Int)) (k : th_V p l e R s m args below meth c D cI cZ ad L nL r hh tgt ls st h) : th_V p l e R s m args below meth c D cI cZ ad L nL r hh pc ls (.int x :: st) h := fun H locs a hP hS hl => lv_tableOut X.1 X.2.1 d h1 ht (k H locs a hP hS hl)
theorem V_getI (X : th_X p s m args meth c D cI cZ ad L nL own cc rt) {ci N index q j : Nat} {C : String} {T : u_T} {fs : List Nat}  (d : decode cc pc = .ok (.getfield index, 3)) (w : Cond.fieldLink own index (T j).1 (T j).2.1 (T j).2.2.1 ∈ th_T) (hin : ∀ w ∈ u_ws C T N, w ∈ th_T) (hc : vwCl[ci]? = some (C, T, N)) (hL : L[q]? = some (.inr (ci, fs))) (hj : j < N) (hf : fs[j]? = some 0) (k : th_V p l e R s m args below meth c D cI cZ ad L nL r hh (pc + 3) ls (.int (h.1 q j) :: st) h) : th_V p l e R s m args below meth c D cI cZ ad L nL r hh pc ls (.ref q :: st) h := by
  intro H locs a hP hS hl
  refine va_get (D := D) (ci := ci) (C := C) (T := T) (N := N) X.1 X.2.1 X.2.2.2.2.1 hin X.2.2.2.1 X.2.2.2.2.2.1 hP q (th_W_at hL) hc j hj (X.2.2.2.2.1 _ w) (fun _ z => z) (v := th_fv ad h q j 0) ?_ d (k H locs a hP hS hl)
  simp [th_fL, List.getElem?_mapIdx, hf]
theorem V_getL (X : th_X p s m args meth c D cI cZ ad L nL own cc rt) {ci N index q j : Nat} {C : String} {T : u_T} {fs : List Nat}  (d : decode cc pc = .ok (.getfield index, 3)) (w : Cond.fieldLink own index (T j).1 (T j).2.1 (T j).2.2.1 ∈ th_T) (hin : ∀ w ∈ u_ws C T N, w ∈ th_T) (hc : vwCl[ci]? = some (C, T, N)) (hL : L[q]? = some (.inr (ci, fs))) (hj : j < N) (hf : fs[j]? = some 1) (k : th_V p l e R s m args below meth c D cI cZ ad L nL r hh (pc + 3) ls (.long h.2 :: st) h) : th_V p l e R s m args below meth c D cI cZ ad L nL r hh pc ls (.ref q :: st) h := by
  intro H locs a hP hS hl
  refine va_get (D := D) (ci := ci) (C := C) (T := T) (N := N) X.1 X.2.1 X.2.2.2.2.1 hin X.2.2.2.1 X.2.2.2.2.2.1 hP q (th_W_at hL) hc j hj (X.2.2.2.2.1 _ w) (fun _ z => z) (v := th_fv ad h q j 1) ?_ d (k H locs a hP hS hl)
  simp [th_fL, List.getElem?_mapIdx, hf]
theorem V_getR (X : th_X p s m args meth c D cI cZ ad L nL own cc rt) {ci N index q j : Nat} {C : String} {T : u_T} {fs : List Nat} {t : Nat} (d : decode cc pc = .ok (.getfield index, 3)) (w : Cond.fieldLink own index (T j).1 (T j).2.1 (T j).2.2.1 ∈ th_T) (hin : ∀ w ∈ u_ws C T N, w ∈ th_T) (hc : vwCl[ci]? = some (C, T, N)) (hL : L[q]? = some (.inr (ci, fs))) (hj : j < N) (hf : fs[j]? = some (t + 2)) (k : th_V p l e R s m args below meth c D cI cZ ad L nL r hh (pc + 3) ls (.ref t :: st) h) : th_V p l e R s m args below meth c D cI cZ ad L nL r hh pc ls (.ref q :: st) h := by
  intro H locs a hP hS hl
  refine va_get (D := D) (ci := ci) (C := C) (T := T) (N := N) X.1 X.2.1 X.2.2.2.2.1 hin X.2.2.2.1 X.2.2.2.2.2.1 hP q (th_W_at hL) hc j hj (X.2.2.2.2.1 _ w) (fun _ z => z) (v := th_fv ad h q j (t + 2)) ?_ d (k H locs a hP hS hl)
  simp [th_fL, List.getElem?_mapIdx, hf]
theorem V_putI (X : th_X p s m args meth c D cI cZ ad L nL own cc rt) {ci N index q j : Nat} {C : String} {T : u_T} {fs : List Nat} {x : Int32} {h2 : th_H} {ty : FieldType} (d : decode cc pc = .ok (.putfield index, 3)) (w : Cond.fieldLink own index (T j).1 (T j).2.1 (T j).2.2.1 ∈ th_T) (hin : ∀ w ∈ u_ws C T N, w ∈ th_T) (hc : vwCl[ci]? = some (C, T, N)) (hL : L[q]? = some (.inr (ci, fs))) (hj : j < N) (hf : fs[j]? = some 0) (ty0 : Nat → FieldType) (hty : ∀ k, k < N → parseFieldDescriptor (T k).2.2.1 = some (ty0 k)) (hnm : ∀ a, a < N → ∀ b, b < N → a ≠ b → (T a).2.1 ≠ (T b).2.1) (hfin : (T j).2.2.2 = false) (hd : parseFieldDescriptor (T j).2.2.1 = some ty) (hn : narrow ty (.int x) = .int x) (hfit : fits ty (.int x) = true) (hu : th_up h q j x = h2)
    (k : th_V p l e R s m args below meth c D cI cZ ad L nL r hh (pc + 3) ls st h2) : th_V p l e R s m args below meth c D cI cZ ad L nL r hh pc ls (.int x :: .ref q :: st) h := by
  intro H locs a hP hS hl
  have hlen : j < fs.length := (List.getElem?_eq_some_iff.mp hf).1
  refine va_put (D := D) (ci := ci) (C := C) (T := T) (N := N) (v := .int x) X.1 X.2.1 X.2.2.2.2.1 hin ty0 hty hnm X.2.2.2.1 X.2.2.2.2.2.1 hP (th_D X.2.2.2.2.2.2.1) hS q (th_W_at hL) hc j hj (X.2.2.2.2.1 _ w) (fun _ z => z) hfin hd hn hfit (by simpa [th_fL] using hlen) d (fun H1 locs1 hP1 hD1 hS1 => ?_)
  have he : (th_W cI cZ ad L h).set q (ad q, .inr (ci, (th_fL ad h q fs).set j (.int x))) = th_W cI cZ ad L h2 := by
    subst hu
    refine th_W_set hL ?_ (fun i d' hi _ => th_E_ne (th_up_ne hi) rfl d')
    show _ = Sum.inr (ci, th_fL ad (th_up h q j x) q fs)
    congr 2
    apply List.ext_getElem?
    intro i
    by_cases hi : i = j
    · subst hi
      rw [List.getElem?_set_self (by simpa [th_fL] using hlen)]
      simp only [th_fL, List.getElem?_mapIdx, hf]
      simp [th_fv, th_up]
    · rw [List.getElem?_set_ne (fun z => hi z.symm)]
      simp only [th_fL, List.getElem?_mapIdx]
      congr 1
      funext z
      match z with
      | 0 => simp [th_fv, th_up, hi]
      | 1 => rfl
      | t + 2 => rfl
  rw [he] at hP1
  exact k H1 locs1 a hP1 hS1 hl
theorem V_putL (X : th_X p s m args meth c D cI cZ ad L nL own cc rt) {ci N index q j : Nat} {C : String} {T : u_T} {fs : List Nat} {x : Int64} {h2 : th_H} (d : decode cc pc = .ok (.putfield index, 3)) (w : Cond.fieldLink own index (T j).1 (T j).2.1 (T j).2.2.1 ∈ th_T) (hin : ∀ w ∈ u_ws C T N, w ∈ th_T) (hc : vwCl[ci]? = some (C, T, N)) (hL : L[q]? = some (.inr (ci, fs))) (hj : j < N) (hf : fs[j]? = some 1) (ty0 : Nat → FieldType) (hty : ∀ k, k < N → parseFieldDescriptor (T k).2.2.1 = some (ty0 k)) (hnm : ∀ a, a < N → ∀ b, b < N → a ≠ b → (T a).2.1 ≠ (T b).2.1) (hfin : (T j).2.2.2 = false) (hd : parseFieldDescriptor (T j).2.2.1 = some .long) (hone : ∀ i ci' fs', L[i]? = some (.inr (ci', fs')) → ∀ j', fs'[j']? = some 1 → i = q ∧ j' = j) (hu : th_ul h x = h2)
    (k : th_V p l e R s m args below meth c D cI cZ ad L nL r hh (pc + 3) ls st h2) : th_V p l e R s m args below meth c D cI cZ ad L nL r hh pc ls (.long x :: .ref q :: st) h := by
  intro H locs a hP hS hl
  have hlen : j < fs.length := (List.getElem?_eq_some_iff.mp hf).1
  refine va_put (D := D) (ci := ci) (C := C) (T := T) (N := N) (v := .long x) X.1 X.2.1 X.2.2.2.2.1 hin ty0 hty hnm X.2.2.2.1 X.2.2.2.2.2.1 hP (th_D X.2.2.2.2.2.2.1) hS q (th_W_at hL) hc j hj (X.2.2.2.2.1 _ w) (fun _ z => z) hfin hd rfl rfl (by simpa [th_fL] using hlen) d (fun H1 locs1 hP1 hD1 hS1 => ?_)
  have hfld : ∀ i ci' fs', L[i]? = some (.inr (ci', fs')) → ∀ j', ¬ (i = q ∧ j' = j) → ∀ z, fs'[j']? = some z → th_fv ad (th_ul h x) i j' z = th_fv ad h i j' z := by
    intro i ci' fs' h1 j' h2 z hz
    match z, hz with
    | 0, _ => rfl
    | 1, hz => exact absurd (hone i ci' fs' h1 j' hz) h2
    | t + 2, _ => rfl
  have he : (th_W cI cZ ad L h).set q (ad q, .inr (ci, (th_fL ad h q fs).set j (.long x))) = th_W cI cZ ad L h2 := by
    subst hu
    refine th_W_set hL ?_ (fun i d' hi hd' => ?_)
    · show _ = Sum.inr (ci, th_fL ad (th_ul h x) q fs)
      congr 2
      apply List.ext_getElem?
      intro i
      by_cases hi : i = j
      · subst hi
        rw [List.getElem?_set_self (by simpa [th_fL] using hlen)]
        simp only [th_fL, List.getElem?_mapIdx, hf]
        simp [th_fv, th_ul]
      · rw [List.getElem?_set_ne (fun z => hi z.symm)]
        simp only [th_fL, List.getElem?_mapIdx]
        cases hz : fs[i]? with
        | none => rfl
        | some z => simp only [Option.map_some]; rw [hfld q ci fs hL i (fun y => hi y.2) z hz]
    · rcases d' with ⟨n, b⟩ | ⟨ci', fs'⟩
      · rfl
      · show Sum.inr (ci', th_fL ad (th_ul h x) i fs') = Sum.inr (ci', th_fL ad h i fs')
        congr 2
        apply List.ext_getElem?
        intro j'
        simp only [th_fL, List.getElem?_mapIdx]
        cases hz : fs'[j']? with
        | none => rfl
        | some z => simp only [Option.map_some]; rw [hfld i ci' fs' hd' j' (fun y => hi y.1) z hz]
  rw [he] at hP1
  exact k H1 locs1 a hP1 hS1 hl
theorem V_iald (X : th_X p s m args meth c D cI cZ ad L nL own cc rt) {q n : Nat} {i v : Int32} (d : decode cc pc = .ok (.iaload, 1)) (hL : L[q]? = some (.inl (n, false))) (hin : vp_in i n) (hv : h.1 q i.toNatClampNeg = v) (k : th_V p l e R s m args below meth c D cI cZ ad L nL r hh (pc + 1) ls (.int v :: st) h) : th_V p l e R s m args below meth c D cI cZ ad L nL r hh pc ls (.int i :: .ref q :: st) h := by
  subst hv
  exact fun H locs a hP hS hl => va_iald X.1 X.2.1 X.2.2.2.2.2.1 hP q 0 (th_W_at hL) rfl hin d (k H locs a hP hS hl)
theorem V_zald (X : th_X p s m args meth c D cI cZ ad L nL own cc rt) {q n : Nat} {i v : Int32} (d : decode cc pc = .ok (.baload, 1)) (hL : L[q]? = some (.inl (n, true))) (hin : vp_in i n) (hv : h.1 q i.toNatClampNeg = v) (k : th_V p l e R s m args below meth c D cI cZ ad L nL r hh (pc + 1) ls (.int v :: st) h) : th_V p l e R s m args below meth c D cI cZ ad L nL r hh pc ls (.int i :: .ref q :: st) h := by
  subst hv
  exact fun H locs a hP hS hl => va_zald X.1 X.2.1 X.2.2.2.2.2.1 hP q 1 (th_W_at hL) rfl hin d (k H locs a hP hS hl)
theorem V_iast (X : th_X p s m args meth c D cI cZ ad L nL own cc rt) {q n : Nat} {i v : Int32} {h2 : th_H} (d : decode cc pc = .ok (.iastore, 1)) (hL : L[q]? = some (.inl (n, false))) (hin : vp_in i n) (hu : th_up h q i.toNatClampNeg v = h2) (k : th_V p l e R s m args below meth c D cI cZ ad L nL r hh (pc + 1) ls st h2) : th_V p l e R s m args below meth c D cI cZ ad L nL r hh pc ls (.int v :: .int i :: .ref q :: st) h := by
  intro H locs a hP hS hl
  refine va_iast X.1 X.2.1 X.2.2.2.2.2.1 hP (th_D X.2.2.2.2.2.2.1) hS q 0 (th_W_at hL) rfl hin d (fun H1 locs1 hP1 hD1 hS1 => ?_)
  rw [th_W_set (h2 := h2) hL (by subst hu; show _ = Sum.inl (cI, n, Sum.inl ((th_up h q i.toNatClampNeg v).1 q)); rw [th_up_arr]; rfl) (fun i' d' hi _ => by subst hu; exact th_E_ne (th_up_ne hi) rfl d')] at hP1
  exact k H1 locs1 a hP1 hS1 hl
theorem V_zast (X : th_X p s m args meth c D cI cZ ad L nL own cc rt) {q n : Nat} {i v : Int32} {h2 : th_H} (d : decode cc pc = .ok (.bastore, 1)) (hL : L[q]? = some (.inl (n, true))) (hin : vp_in i n) (hn : vp_nar .boolean v = v) (hu : th_up h q i.toNatClampNeg v = h2) (k : th_V p l e R s m args below meth c D cI cZ ad L nL r hh (pc + 1) ls st h2) : th_V p l e R s m args below meth c D cI cZ ad L nL r hh pc ls (.int v :: .int i :: .ref q :: st) h := by
  intro H locs a hP hS hl
  refine va_zast X.1 X.2.1 X.2.2.2.2.2.1 hP (th_D X.2.2.2.2.2.2.1) hS q 1 (th_W_at hL) rfl hin d (fun H1 locs1 hP1 hD1 hS1 => ?_)
  rw [hn, th_W_set (h2 := h2) hL (by subst hu; show _ = Sum.inl (cZ, n, Sum.inl ((th_up h q i.toNatClampNeg v).1 q)); rw [th_up_arr]; rfl) (fun i' d' hi _ => by subst hu; exact th_E_ne (th_up_ne hi) rfl d')] at hP1
  exact k H1 locs1 a hP1 hS1 hl
theorem V_alen (X : th_X p s m args meth c D cI cZ ad L nL own cc rt) {q n : Nat} {v : Int32} (d : decode cc pc = .ok (.arraylength, 1)) (hL : L[q]? = some (.inl (n, false))) (hv : Int32.ofNat n = v) (k : th_V p l e R s m args below meth c D cI cZ ad L nL r hh (pc + 1) ls (.int v :: st) h) : th_V p l e R s m args below meth c D cI cZ ad L nL r hh pc ls (.ref q :: st) h :=
  fun H locs a hP hS hl => va_alen X.1 X.2.1 X.2.2.2.2.2.1 hP q 0 (th_W_at hL) rfl hv d (k H locs a hP hS hl)
theorem th_rest {ad : Nat → Nat} {st : List Value} : ((st.map (th_cv ad)).map fun v => v.category) = st.map fun v => v.category := by
  rw [List.map_map]
  exact List.map_congr_left (fun v _ => th_cat ad v)
theorem V_mmax (X : th_X p s m args meth c D cI cZ ad L nL own cc rt) {index : Nat} {x y : Int32} (d : decode cc pc = .ok (.invokestatic index, 3)) (w0 : Cond.methodLink own index Lib.Math.max.name ∈ th_T) (w1 : Cond.static Lib.Math.max.name ∈ th_T) (w2 : Cond.initialized "java/lang/Math" ∈ th_T) (w3 : Cond.code Lib.Math.max.name Lib.Math.max.code 2 (some .int) ∈ th_T) (hfr : 1 ≤ R.frames) (hlo : (st.map fun v => v.category).sum + 13 ≤ R.locals) (k : th_V p l e R s m args below meth c D cI cZ ad L nL r hh (pc + 3) ls (.int (th_mx x y) :: st) h) : th_V p l e R s m args below meth c D cI cZ ad L nL r hh pc ls (.int y :: .int x :: st) h :=
  fun H locs a hP hS hl => va_mmax X.1 X.2.1 (by rw [X.2.2.1]; exact hl.1.symm) X.2.2.2.1 (X.2.2.2.2.1 _ w0) (X.2.2.2.2.1 _ w1) (X.2.2.2.2.1 _ w2) (X.2.2.2.2.1 _ w3) hfr (by rw [th_rest]; exact hlo) (Nat.zero_le _) (Nat.zero_le _) d (k H locs a hP hS hl)
theorem V_mmin (X : th_X p s m args meth c D cI cZ ad L nL own cc rt) {index : Nat} {x y : Int32} (d : decode cc pc = .ok (.invokestatic index, 3)) (w0 : Cond.methodLink own index Lib.Math.min.name ∈ th_T) (w1 : Cond.static Lib.Math.min.name ∈ th_T) (w2 : Cond.initialized "java/lang/Math" ∈ th_T) (w3 : Cond.code Lib.Math.min.name Lib.Math.min.code 2 (some .int) ∈ th_T) (hfr : 1 ≤ R.frames) (hlo : (st.map fun v => v.category).sum + 13 ≤ R.locals) (k : th_V p l e R s m args below meth c D cI cZ ad L nL r hh (pc + 3) ls (.int (th_mn x y) :: st) h) : th_V p l e R s m args below meth c D cI cZ ad L nL r hh pc ls (.int y :: .int x :: st) h :=
  fun H locs a hP hS hl => va_mmin X.1 X.2.1 (by rw [X.2.2.1]; exact hl.1.symm) X.2.2.2.1 (X.2.2.2.2.1 _ w0) (X.2.2.2.2.1 _ w1) (X.2.2.2.2.1 _ w2) (X.2.2.2.2.1 _ w3) hfr (by rw [th_rest]; exact hlo) (Nat.zero_le _) (Nat.zero_le _) d (k H locs a hP hS hl)
theorem V_mabs (X : th_X p s m args meth c D cI cZ ad L nL own cc rt) {index : Nat} {x : Int32} (d : decode cc pc = .ok (.invokestatic index, 3)) (w0 : Cond.methodLink own index Lib.Math.abs.name ∈ th_T) (w1 : Cond.static Lib.Math.abs.name ∈ th_T) (w2 : Cond.initialized "java/lang/Math" ∈ th_T) (w3 : Cond.code Lib.Math.abs.name Lib.Math.abs.code 1 (some .int) ∈ th_T) (hfr : 1 ≤ R.frames) (hlo : (st.map fun v => v.category).sum + 13 ≤ R.locals) (k : th_V p l e R s m args below meth c D cI cZ ad L nL r hh (pc + 3) ls (.int (th_ab x) :: st) h) : th_V p l e R s m args below meth c D cI cZ ad L nL r hh pc ls (.int x :: st) h :=
  fun H locs a hP hS hl => va_mabs X.1 X.2.1 (by rw [X.2.2.1]; exact hl.1.symm) X.2.2.2.1 (X.2.2.2.2.1 _ w0) (X.2.2.2.2.1 _ w1) (X.2.2.2.2.1 _ w2) (X.2.2.2.2.1 _ w3) hfr (by rw [th_rest]; exact hlo) (Nat.zero_le _) (Nat.zero_le _) d (k H locs a hP hS hl)
theorem V_copy (X : th_X p s m args meth c D cI cZ ad L nL own cc rt) {q0 q1 n0 n1 N index : Nat} {h2 : th_H} {n : Int32} (d : decode cc pc = .ok (.invokestatic index, 3)) (w0 : Cond.methodLink own index arraycopyName ∈ th_T) (w1 : Cond.native arraycopyName ∈ th_T) (w2 : Cond.static arraycopyName ∈ th_T) (w3 : Cond.initialized "java/lang/System" ∈ th_T)
    (hL0 : L[q0]? = some (.inl (n0, false))) (hL1 : L[q1]? = some (.inl (n1, false))) (hn : ¬ n < 0) (hN : n.toNatClampNeg = N) (h4 : N ≤ n0) (h5 : N ≤ n1) (hfr : 1 ≤ R.frames) (hlo : (st.map fun v => v.category).sum + (nativeFrameWords "java/lang/System" "arraycopy" 5 + 11) ≤ R.locals) (hu : th_cp h q0 q1 N = h2)
    (k : th_V p l e R s m args below meth c D cI cZ ad L nL r hh (pc + 3) ls st h2) : th_V p l e R s m args below meth c D cI cZ ad L nL r hh pc ls (.int n :: .int 0 :: .ref q1 :: .int 0 :: .ref q0 :: st) h := by
  subst hN
  intro H locs a hP hS hl
  have z0 : (0 : Int32).toNatClampNeg = 0 := rfl
  refine va_copyi (ty := .int) X.1 X.2.1 (by rw [X.2.2.1]; exact hl.1.symm) X.2.2.2.1 (X.2.2.2.2.1 _ w0) (X.2.2.2.2.1 _ w1) (X.2.2.2.2.1 _ w2) (X.2.2.2.2.1 _ w3) X.2.2.2.2.2.1 hP (th_D X.2.2.2.2.2.2.1) hS q0 q1 0 0 (th_W_at hL0) (th_W_at hL1) rfl rfl rfl (by decide) (by decide) hn (by rw [z0]; omega) (by rw [z0]; omega) (fun _ _ => rfl) hfr (by rw [th_rest]; exact hlo) d (fun H1 locs1 hP1 hD1 hS1 => ?_)
  rw [th_W_set (h2 := h2) hL1 ?_ (fun i' d' hi _ => by subst hu; exact th_E_ne (h := h) (h2 := th_cp h q0 q1 n.toNatClampNeg) (by funext j; simp [th_cp, hi]) rfl d')] at hP1
  · exact k H1 locs1 a hP1 hS1 hl
  · subst hu
    show _ = Sum.inl (cI, n1, Sum.inl ((th_cp h q0 q1 n.toNatClampNeg).1 q1))
    congr 4
    funext j
    simp [va_cpy, th_cp]
theorem V_iret (X : th_X p s m args meth c D cI cZ ad L nL own cc (some .int)) {x : Int32} (d : decode cc pc = .ok (.ireturn, 1)) (hr : r = some (.int x)) (hq : hh = h) : th_V p l e R s m args below meth c D cI cZ ad L nL r hh pc ls (.int x :: []) h := by
  subst hr; subst hq
  intro H locs a hP hS hl
  exact W.iret X.1 X.2.1 X.2.2.2.2.2.2.2.2.1 (fun t ht hW => ⟨⟨rfl, by rw [ht]; exact hP⟩, hS.F ht⟩) hS.2.2 d X.2.2.2.2.2.2.2.1
theorem V_lret (X : th_X p s m args meth c D cI cZ ad L nL own cc (some .long)) {x : Int64} (d : decode cc pc = .ok (.lreturn, 1)) (hr : r = some (.long x)) (hq : hh = h) : th_V p l e R s m args below meth c D cI cZ ad L nL r hh pc ls (.long x :: []) h := by
  subst hr; subst hq
  intro H locs a hP hS hl
  exact W.lret X.1 X.2.1 X.2.2.2.2.2.2.2.2.1 (fun t ht hW => ⟨⟨rfl, by rw [ht]; exact hP⟩, hS.F ht⟩) hS.2.2 d X.2.2.2.2.2.2.2.1
theorem V_zret (X : th_X p s m args meth c D cI cZ ad L nL own cc (some .boolean)) {x : Int32} (d : decode cc pc = .ok (.ireturn, 1)) (hx : x = 0 ∨ x = 1) (hr : r = some (.int x)) (hq : hh = h) : th_V p l e R s m args below meth c D cI cZ ad L nL r hh pc ls (.int x :: []) h := by
  subst hr; subst hq
  intro H locs a hP hS hl
  exact W.zret (ty := .boolean) X.1 X.2.1 X.2.2.2.2.2.2.2.2.1 (by rcases hx with rfl | rfl <;> rfl) (fun t ht hW => ⟨⟨rfl, by rw [ht]; exact hP⟩, hS.F ht⟩) hS.2.2 d X.2.2.2.2.2.2.2.1
theorem V_vret (X : th_X p s m args meth c D cI cZ ad L nL own cc none) (d : decode cc pc = .ok (.return_, 1)) (hr : r = none) (hq : hh = h) : th_V p l e R s m args below meth c D cI cZ ad L nL r hh pc ls [] h := by
  subst hr; subst hq
  intro H locs a hP hS hl
  exact W.vret X.1 X.2.1 X.2.2.2.2.2.2.2.2.1 (fun t ht hW => ⟨⟨rfl, by rw [ht]; exact hP⟩, hS.F ht⟩) hS.2.2 d X.2.2.2.2.2.2.2.1
theorem V_aret (X : th_X p s m args meth c D cI cZ ad L nL own cc rt) {x : Nat} {o : String} (ho : rt = some (.object o)) (d : decode cc pc = .ok (.areturn, 1)) (hr : r = some (.ref x)) (hq : hh = h) : th_V p l e R s m args below meth c D cI cZ ad L nL r hh pc ls (.ref x :: []) h := by
  subst hr; subst hq
  intro H locs a hP hS hl
  exact W.aret (rt := .object o) X.1 X.2.1 (X.2.2.2.2.2.2.2.2.1.trans ho) (Or.inl ⟨o, rfl⟩) (Or.inr ⟨_, rfl⟩) (fun t ht hW => ⟨⟨rfl, by rw [ht]; exact hP⟩, hS.F ht⟩) hS.2.2 d X.2.2.2.2.2.2.2.1
theorem th_call (X : th_X p s m args meth c D cI cZ ad L nL own cc rt) {H : Heap} {locs : List Loc} {a : Array Slot} {st0 rest : List Value} {a1 : Array Value} {r1 : Option Value} {h1 : th_H} {Q : State → Prop} (hr : va_Run p l e R s m args below meth c H locs 0 0 0 0 (F0 m pc a st0) (rest.map (th_cv ad)) (th_QP D cI cZ ad L H.size r1 h1 a1) (th_A ad L H.size)) (hS : va_S (th_A ad L s.heap.size) s.heap H locs)
    (kk : ∀ (H1 : Heap) (locs1 : List Loc), va_P D vwCl (th_W cI cZ ad L h1) H1 → va_S (th_A ad L s.heap.size) s.heap H1 locs1 → W p l e R s m args below meth c H1 locs1 0 0 Q (F0 m (pc + 3) a ((r1.toList ++ rest).map (th_cv ad)))) : W p l e R s m args below meth c H locs 0 0 Q (F0 m pc a st0) := by
  intro T hT Y
  obtain ⟨v, st₀, t, T', L', h0, Y', hL, e1, e2, ⟨⟨hv, hp⟩, hz, hk⟩, sx⟩ := hr T hT Y
  have hA : ∀ q, th_A ad L H.size q → th_A ad L s.heap.size q := fun q h => h.elim Or.inl (fun z => Or.inr (Nat.le_trans hS.1 z))
  have hv : v = r1.map (th_cv ad) := by injection hv
  rw [h0] at hz hk
  obtain ⟨t2, q1, q2⟩ := kk T'.heap (locs ++ L') (by rw [e1]; exact hp)
    ⟨Nat.le_trans hS.1 (by rw [e1]; exact hz), fun q g1 g2 => by rw [e1, hk q (Nat.lt_of_lt_of_le g1 hS.1) (fun z => g2 (hA q z))]; exact hS.2.1 q g1 g2, fun q hq => by
      rcases List.mem_append.mp hq with z | z
      · exact hS.2.2 q z
      · exact hA _ (hL q z)⟩ T' rfl Y'
  refine ⟨t2, sx t2 ?_, q2⟩
  have : (r1.toList ++ rest).map (th_cv ad) = v.toList ++ rest.map (th_cv ad) := by
    rw [hv, List.map_append]
    cases r1 <;> rfl
  rw [this] at q1
  exact q1
theorem th_blind {D : va_G} {cI cZ : ClassId} {ad : Nat → Nat} {L : th_L} {sz : Nat} {h : th_H} {av : List Value} : FrameBlind (th_PC D cI cZ ad L sz h av) := by
  intro a U g mk q
  obtain ⟨q0, q1, qP, qK, qD, qN⟩ := q
  exact ⟨q0, q1, qP, va_K.moved (u := U) (U := U.calling g mk a) (Vm.Alike.refl U.vm) qK, qD, va_Nw.same rfl rfl qN⟩
theorem th_pre (X : th_X p s m args meth c D cI cZ ad L nL own cc rt) {H : Heap} {av : List Value} (hP : va_P D vwCl (th_W cI cZ ad L h) H) : ∀ U : State, U.heap = H → s.WarmedH U.vm → th_PC D cI cZ ad L H.size h av (av.map (th_cv ad)).toArray U :=
  fun U hU hW => ⟨rfl, by rw [hU], by rw [hU]; exact hP, va_K.moved hW.alike X.2.2.2.2.2.1, X.2.2.2.2.2.2.1, va_Nw.warmM hW X.2.2.2.2.2.2.2.2.2⟩
theorem th_good {y : MethodName} {bytes : ByteArray} {maxL : Nat} {ret : Option FieldType} (hc : Cond.code y bytes maxL ret ∈ th_T) : GoodIn th_T (Cond.code y bytes maxL ret :: th_T) := by
  intro w hw
  rcases List.mem_cons.mp hw with rfl | hw
  · exact ⟨hc, good_of_word (List.mem_filter.mp hc).2⟩
  · exact ⟨hw, good_of_word (List.mem_filter.mp hw).2⟩
theorem th_rev {ad : Nat → Nat} (As rest : List Value) : ((As.reverse ++ rest).map (th_cv ad)) = (As.map (th_cv ad)).reverse ++ rest.map (th_cv ad) := by simp
theorem V_callV (X : th_X p s m args meth c D cI cZ ad L nL own cc rt) {y : MethodName} {bytes : ByteArray} {maxL : Nat} {ret : Option FieldType} {F N index : Nat} {r1 : Option Value} {h1 : th_H} {As : List Value} {stk : List Value} {q ci : Nat} {C : String} {T : u_T} {NN : Nat} {fs : List Nat} (d : decode cc pc = .ok (.invokevirtual index, 3)) (hM : th_MI l L y bytes maxL ret F N (.ref q :: As) h r1 h1) (hc : Cond.code y bytes maxL ret ∈ th_T) (w0 : Cond.methodLink own index y ∈ th_T) (w1 : Cond.instanceMethod y ∈ th_T) (w2 : Cond.selects C y y ∈ th_T) (w3 : Cond.initialized y.cls ∈ th_T) (hd : y.cls ≠ "java/lang/invoke/MethodHandle" ∧ y.cls ≠ "java/lang/invoke/VarHandle" ∧ (parseMethodDescriptor y.desc).map (fun d => d.parameters.length) = some As.length) (hR : F + 1 ≤ R.frames ∧ 8 + (maxL + 11) + N ≤ R.locals) (hW : (st.map fun v => v.category).sum ≤ 8) (hcl : vwCl[ci]? = some (C, T, NN)) (hL : L[q]? = some (.inr (ci, fs))) (hs : stk = As.reverse ++ .ref q :: st)
    (k : th_V p l e R s m args below meth c D cI cZ ad L nL r hh (pc + 3) ls (r1.toList ++ st) h1) : th_V p l e R s m args below meth c D cI cZ ad L nL r hh pc ls stk h := by
  subst hs
  intro H locs a hP hS hl
  refine th_call X (rest := st) (va_runV (As := As.map (th_cv ad)) (b := ad q) (nL := nL) (Ts := th_T) ⟨X.1, X.2.1, X.2.2.1, X.2.2.2.1, X.2.2.2.2.1⟩ (hM D cI cZ ad H.size) (n := As.length) ⟨callB_of As.length X.2.2.2.2.1 (th_good hc) rfl rfl rfl (X.2.2.2.2.1 _ w3) (X.2.2.2.2.1 _ w0) hd hR, X.2.2.2.2.1 _ w1, X.2.2.2.2.1 _ w2⟩ ⟨th_blind, va_recv X.2.2.2.2.2.1 hP hcl (th_W_at hL), th_pre X hP⟩ rfl (by simp) hl.1 (by rw [th_rev]; rfl) (lv_room (by rw [th_rest]; exact hW)) d ⟨Nat.zero_le _, Nat.zero_le _⟩) hS (fun H1 locs1 hP1 hS1 => k H1 locs1 a hP1 hS1 hl)
theorem V_callS (X : th_X p s m args meth c D cI cZ ad L nL own cc rt) {y : MethodName} {bytes : ByteArray} {maxL : Nat} {ret : Option FieldType} {F N index : Nat} {r1 : Option Value} {h1 : th_H} {As : List Value} {stk : List Value} (d : decode cc pc = .ok (.invokestatic index, 3)) (hM : th_MI l L y bytes maxL ret F N As h r1 h1) (hc : Cond.code y bytes maxL ret ∈ th_T) (w0 : Cond.methodLink own index y ∈ th_T) (w1 : Cond.static y ∈ th_T) (w3 : Cond.initialized y.cls ∈ th_T) (hd : y.cls ≠ "java/lang/invoke/MethodHandle" ∧ y.cls ≠ "java/lang/invoke/VarHandle" ∧ (parseMethodDescriptor y.desc).map (fun d => d.parameters.length) = some As.length) (hR : F + 1 ≤ R.frames ∧ 8 + (maxL + 11) + N ≤ R.locals) (hW : (st.map fun v => v.category).sum ≤ 8) (hs : stk = As.reverse ++ st)
    (k : th_V p l e R s m args below meth c D cI cZ ad L nL r hh (pc + 3) ls (r1.toList ++ st) h1) : th_V p l e R s m args below meth c D cI cZ ad L nL r hh pc ls stk h := by
  subst hs
  intro H locs a hP hS hl
  refine th_call X (rest := st) (va_runS (As := As.map (th_cv ad)) (nL := nL) (Ts := th_T) ⟨X.1, X.2.1, X.2.2.1, X.2.2.2.1, X.2.2.2.2.1⟩ (hM D cI cZ ad H.size) (n := As.length) ⟨callB_of As.length X.2.2.2.2.1 (th_good hc) rfl rfl rfl (X.2.2.2.2.1 _ w3) (X.2.2.2.2.1 _ w0) hd hR, X.2.2.2.2.1 _ w1⟩ ⟨th_blind, th_pre X hP⟩ rfl (by simp) hl.1 (by rw [th_rev]) (lv_room (by rw [th_rest]; exact hW)) d ⟨Nat.zero_le _, Nat.zero_le _⟩) hS (fun H1 locs1 hP1 hS1 => k H1 locs1 a hP1 hS1 hl)
theorem V_callSN (X : th_X p s m args meth c D cI cZ ad L nL RX1 cc rt) {bytes : ByteArray} {maxL : Nat} {ret : Option FieldType} {F N : Nat} {r1 : Option Value} {h1 : th_H} {As : List Value} {stk : List Value} (d : decode cc pc = .ok (.invokestatic 163, 3)) (hM : th_MI l L yX3_isLink bytes maxL ret F N As h r1 h1) (hc : Cond.code yX3_isLink bytes maxL ret ∈ th_T) (w1 : Cond.static yX3_isLink ∈ th_T) (w3 : Cond.initialized yX3_isLink.cls ∈ th_T) (hd : yX3_isLink.cls ≠ "java/lang/invoke/MethodHandle" ∧ yX3_isLink.cls ≠ "java/lang/invoke/VarHandle" ∧ (parseMethodDescriptor yX3_isLink.desc).map (fun d => d.parameters.length) = some As.length) (hR : F + 1 ≤ R.frames ∧ 8 + (maxL + 11) + N ≤ R.locals) (hW : (st.map fun v => v.category).sum ≤ 8) (hs : stk = As.reverse ++ st)
    (k : th_V p l e R s m args below meth c D cI cZ ad L nL r hh (pc + 3) ls (r1.toList ++ st) h1) : th_V p l e R s m args below meth c D cI cZ ad L nL r hh pc ls stk h := by
  subst hs
  intro H locs a hP hS hl
  refine th_call X (rest := st) (va_runSN (As := As.map (th_cv ad)) (nL := nL) (Ts := th_T) ⟨X.1, X.2.1, X.2.2.1, X.2.2.2.1, X.2.2.2.2.1⟩ (hM D cI cZ ad H.size) (n := As.length) ⟨va_cnB As.length X.2.2.2.2.1 (th_good hc) rfl rfl rfl X.2.2.2.2.2.2.2.2.2 (X.2.2.2.2.1 _ w3) hd hR, X.2.2.2.2.1 _ w1, trivial⟩ ⟨th_blind, th_pre X hP⟩ rfl (by simp) hl.1 (by rw [th_rev]) (lv_room (by rw [th_rest]; exact hW)) d ⟨Nat.zero_le _, Nat.zero_le _⟩) hS (fun H1 locs1 hP1 hS1 => k H1 locs1 a hP1 hS1 hl)
theorem V_mask (mask : List Bool) {ls2 : List Value} (g : List.zipWith (fun (b : Bool) v => bif b then v else Value.null) mask ls = ls2) (k : th_V p l e R s m args below meth c D cI cZ ad L nL r hh pc ls2 st h) : th_V p l e R s m args below meth c D cI cZ ad L nL r hh pc ls st h := by
  intro H locs a hP hS hl
  refine k H locs a hP hS ⟨hl.1, hl.2.1, fun i v hi hv => hl.2.2 i v ?_ hv⟩
  rw [← g, List.getElem?_zipWith] at hi
  cases hm : mask[i]? with
  | none => rw [hm] at hi; cases hi
  | some b =>
    cases hx : ls[i]? with
    | none => rw [hm, hx] at hi; cases hi
    | some w =>
      rw [hm, hx] at hi
      cases b
      · have : Value.null = v := Option.some.inj hi
        exact absurd this.symm hv
      · exact hi
theorem V_iretF (X : th_X p s m args meth c D cI cZ ad L nL own cc (some .int)) {x rr : Int32} (d : decode cc pc = .ok (.ireturn, 1)) (hf : some (x, h) = some (rr, hh)) : th_V p l e R s m args below meth c D cI cZ ad L nL (some (.int rr)) hh pc ls (.int x :: []) h := by
  cases hf
  exact V_iret X d rfl rfl
theorem V_lretF (X : th_X p s m args meth c D cI cZ ad L nL own cc (some .long)) {x rr : Int64} (d : decode cc pc = .ok (.lreturn, 1)) (hf : some (x, h) = some (rr, hh)) : th_V p l e R s m args below meth c D cI cZ ad L nL (some (.long rr)) hh pc ls (.long x :: []) h := by
  cases hf
  exact V_lret X d rfl rfl
theorem V_zretF (X : th_X p s m args meth c D cI cZ ad L nL own cc (some .boolean)) {x rr : Int32} (d : decode cc pc = .ok (.ireturn, 1)) (hx : x = 0 ∨ x = 1) (hf : some (x, h) = some (rr, hh)) : th_V p l e R s m args below meth c D cI cZ ad L nL (some (.int rr)) hh pc ls (.int x :: []) h := by
  cases hf
  exact V_zret X d hx rfl rfl
theorem V_vretF (X : th_X p s m args meth c D cI cZ ad L nL own cc none) {rr : Unit} (d : decode cc pc = .ok (.return_, 1)) (hf : some ((), h) = some (rr, hh)) : th_V p l e R s m args below meth c D cI cZ ad L nL none hh pc ls [] h := by
  cases hf
  exact V_vret X d rfl rfl
theorem V_aretF (X : th_X p s m args meth c D cI cZ ad L nL own cc rt) {x : Nat} {rr : Unit} {o : String} (ho : rt = some (.object o)) (d : decode cc pc = .ok (.areturn, 1)) (hf : some ((), h) = some (rr, hh)) : th_V p l e R s m args below meth c D cI cZ ad L nL (some (.ref x)) hh pc ls (.ref x :: []) h := by
  cases hf
  exact V_aret X ho d rfl rfl
theorem V_callVi (X : th_X p s m args meth c D cI cZ ad L nL own cc rt) {y : MethodName} {bytes : ByteArray} {maxL : Nat} {ret : Option FieldType} {F N index : Nat} {h1 : th_H} {As : List Value} {stk : List Value} {v : Int32} {q ci : Nat} {C : String} {T : u_T} {NN : Nat} {fs : List Nat} (d : decode cc pc = .ok (.invokevirtual index, 3)) (hM : th_MI l L y bytes maxL ret F N (.ref q :: As) h (some (.int v)) h1) (hc : Cond.code y bytes maxL ret ∈ th_T) (w0 : Cond.methodLink own index y ∈ th_T) (w1 : Cond.instanceMethod y ∈ th_T) (w2 : Cond.selects C y y ∈ th_T) (w3 : Cond.initialized y.cls ∈ th_T) (hd : y.cls ≠ "java/lang/invoke/MethodHandle" ∧ y.cls ≠ "java/lang/invoke/VarHandle" ∧ (parseMethodDescriptor y.desc).map (fun d => d.parameters.length) = some As.length) (hR : F + 1 ≤ R.frames ∧ 8 + (maxL + 11) + N ≤ R.locals) (hW : (st.map fun v => v.category).sum ≤ 8) (hcl : vwCl[ci]? = some (C, T, NN)) (hL : L[q]? = some (.inr (ci, fs))) (hs : stk = As.reverse ++ .ref q :: st)
    (k : th_V p l e R s m args below meth c D cI cZ ad L nL r hh (pc + 3) ls (.int v :: st) h1) : th_V p l e R s m args below meth c D cI cZ ad L nL r hh pc ls stk h := V_callV X d hM hc w0 w1 w2 w3 hd hR hW hcl hL hs k
theorem V_callSi (X : th_X p s m args meth c D cI cZ ad L nL own cc rt) {y : MethodName} {bytes : ByteArray} {maxL : Nat} {ret : Option FieldType} {F N index : Nat} {h1 : th_H} {As : List Value} {stk : List Value} {v : Int32} (d : decode cc pc = .ok (.invokestatic index, 3)) (hM : th_MI l L y bytes maxL ret F N As h (some (.int v)) h1) (hc : Cond.code y bytes maxL ret ∈ th_T) (w0 : Cond.methodLink own index y ∈ th_T) (w1 : Cond.static y ∈ th_T) (w3 : Cond.initialized y.cls ∈ th_T) (hd : y.cls ≠ "java/lang/invoke/MethodHandle" ∧ y.cls ≠ "java/lang/invoke/VarHandle" ∧ (parseMethodDescriptor y.desc).map (fun d => d.parameters.length) = some As.length) (hR : F + 1 ≤ R.frames ∧ 8 + (maxL + 11) + N ≤ R.locals) (hW : (st.map fun v => v.category).sum ≤ 8) (hs : stk = As.reverse ++ st)
    (k : th_V p l e R s m args below meth c D cI cZ ad L nL r hh (pc + 3) ls (.int v :: st) h1) : th_V p l e R s m args below meth c D cI cZ ad L nL r hh pc ls stk h := V_callS X d hM hc w0 w1 w3 hd hR hW hs k
theorem V_callSNi (X : th_X p s m args meth c D cI cZ ad L nL RX1 cc rt) {bytes : ByteArray} {maxL : Nat} {ret : Option FieldType} {F N : Nat} {h1 : th_H} {As : List Value} {stk : List Value} {v : Int32} (d : decode cc pc = .ok (.invokestatic 163, 3)) (hM : th_MI l L yX3_isLink bytes maxL ret F N As h (some (.int v)) h1) (hc : Cond.code yX3_isLink bytes maxL ret ∈ th_T) (w1 : Cond.static yX3_isLink ∈ th_T) (w3 : Cond.initialized yX3_isLink.cls ∈ th_T) (hd : yX3_isLink.cls ≠ "java/lang/invoke/MethodHandle" ∧ yX3_isLink.cls ≠ "java/lang/invoke/VarHandle" ∧ (parseMethodDescriptor yX3_isLink.desc).map (fun d => d.parameters.length) = some As.length) (hR : F + 1 ≤ R.frames ∧ 8 + (maxL + 11) + N ≤ R.locals) (hW : (st.map fun v => v.category).sum ≤ 8) (hs : stk = As.reverse ++ st)
    (k : th_V p l e R s m args below meth c D cI cZ ad L nL r hh (pc + 3) ls (.int v :: st) h1) : th_V p l e R s m args below meth c D cI cZ ad L nL r hh pc ls stk h := V_callSN X d hM hc w1 w3 hd hR hW hs k
theorem V_callVl (X : th_X p s m args meth c D cI cZ ad L nL own cc rt) {y : MethodName} {bytes : ByteArray} {maxL : Nat} {ret : Option FieldType} {F N index : Nat} {h1 : th_H} {As : List Value} {stk : List Value} {v : Int64} {q ci : Nat} {C : String} {T : u_T} {NN : Nat} {fs : List Nat} (d : decode cc pc = .ok (.invokevirtual index, 3)) (hM : th_MI l L y bytes maxL ret F N (.ref q :: As) h (some (.long v)) h1) (hc : Cond.code y bytes maxL ret ∈ th_T) (w0 : Cond.methodLink own index y ∈ th_T) (w1 : Cond.instanceMethod y ∈ th_T) (w2 : Cond.selects C y y ∈ th_T) (w3 : Cond.initialized y.cls ∈ th_T) (hd : y.cls ≠ "java/lang/invoke/MethodHandle" ∧ y.cls ≠ "java/lang/invoke/VarHandle" ∧ (parseMethodDescriptor y.desc).map (fun d => d.parameters.length) = some As.length) (hR : F + 1 ≤ R.frames ∧ 8 + (maxL + 11) + N ≤ R.locals) (hW : (st.map fun v => v.category).sum ≤ 8) (hcl : vwCl[ci]? = some (C, T, NN)) (hL : L[q]? = some (.inr (ci, fs))) (hs : stk = As.reverse ++ .ref q :: st)
    (k : th_V p l e R s m args below meth c D cI cZ ad L nL r hh (pc + 3) ls (.long v :: st) h1) : th_V p l e R s m args below meth c D cI cZ ad L nL r hh pc ls stk h := V_callV X d hM hc w0 w1 w2 w3 hd hR hW hcl hL hs k
theorem V_callSl (X : th_X p s m args meth c D cI cZ ad L nL own cc rt) {y : MethodName} {bytes : ByteArray} {maxL : Nat} {ret : Option FieldType} {F N index : Nat} {h1 : th_H} {As : List Value} {stk : List Value} {v : Int64} (d : decode cc pc = .ok (.invokestatic index, 3)) (hM : th_MI l L y bytes maxL ret F N As h (some (.long v)) h1) (hc : Cond.code y bytes maxL ret ∈ th_T) (w0 : Cond.methodLink own index y ∈ th_T) (w1 : Cond.static y ∈ th_T) (w3 : Cond.initialized y.cls ∈ th_T) (hd : y.cls ≠ "java/lang/invoke/MethodHandle" ∧ y.cls ≠ "java/lang/invoke/VarHandle" ∧ (parseMethodDescriptor y.desc).map (fun d => d.parameters.length) = some As.length) (hR : F + 1 ≤ R.frames ∧ 8 + (maxL + 11) + N ≤ R.locals) (hW : (st.map fun v => v.category).sum ≤ 8) (hs : stk = As.reverse ++ st)
    (k : th_V p l e R s m args below meth c D cI cZ ad L nL r hh (pc + 3) ls (.long v :: st) h1) : th_V p l e R s m args below meth c D cI cZ ad L nL r hh pc ls stk h := V_callS X d hM hc w0 w1 w3 hd hR hW hs k
theorem V_callVv (X : th_X p s m args meth c D cI cZ ad L nL own cc rt) {y : MethodName} {bytes : ByteArray} {maxL : Nat} {ret : Option FieldType} {F N index : Nat} {h1 : th_H} {As : List Value} {stk : List Value}  {q ci : Nat} {C : String} {T : u_T} {NN : Nat} {fs : List Nat} (d : decode cc pc = .ok (.invokevirtual index, 3)) (hM : th_MI l L y bytes maxL ret F N (.ref q :: As) h (none) h1) (hc : Cond.code y bytes maxL ret ∈ th_T) (w0 : Cond.methodLink own index y ∈ th_T) (w1 : Cond.instanceMethod y ∈ th_T) (w2 : Cond.selects C y y ∈ th_T) (w3 : Cond.initialized y.cls ∈ th_T) (hd : y.cls ≠ "java/lang/invoke/MethodHandle" ∧ y.cls ≠ "java/lang/invoke/VarHandle" ∧ (parseMethodDescriptor y.desc).map (fun d => d.parameters.length) = some As.length) (hR : F + 1 ≤ R.frames ∧ 8 + (maxL + 11) + N ≤ R.locals) (hW : (st.map fun v => v.category).sum ≤ 8) (hcl : vwCl[ci]? = some (C, T, NN)) (hL : L[q]? = some (.inr (ci, fs))) (hs : stk = As.reverse ++ .ref q :: st)
    (k : th_V p l e R s m args below meth c D cI cZ ad L nL r hh (pc + 3) ls (st) h1) : th_V p l e R s m args below meth c D cI cZ ad L nL r hh pc ls stk h := V_callV X d hM hc w0 w1 w2 w3 hd hR hW hcl hL hs k
theorem V_callSv (X : th_X p s m args meth c D cI cZ ad L nL own cc rt) {y : MethodName} {bytes : ByteArray} {maxL : Nat} {ret : Option FieldType} {F N index : Nat} {h1 : th_H} {As : List Value} {stk : List Value}  (d : decode cc pc = .ok (.invokestatic index, 3)) (hM : th_MI l L y bytes maxL ret F N As h (none) h1) (hc : Cond.code y bytes maxL ret ∈ th_T) (w0 : Cond.methodLink own index y ∈ th_T) (w1 : Cond.static y ∈ th_T) (w3 : Cond.initialized y.cls ∈ th_T) (hd : y.cls ≠ "java/lang/invoke/MethodHandle" ∧ y.cls ≠ "java/lang/invoke/VarHandle" ∧ (parseMethodDescriptor y.desc).map (fun d => d.parameters.length) = some As.length) (hR : F + 1 ≤ R.frames ∧ 8 + (maxL + 11) + N ≤ R.locals) (hW : (st.map fun v => v.category).sum ≤ 8) (hs : stk = As.reverse ++ st)
    (k : th_V p l e R s m args below meth c D cI cZ ad L nL r hh (pc + 3) ls (st) h1) : th_V p l e R s m args below meth c D cI cZ ad L nL r hh pc ls stk h := V_callS X d hM hc w0 w1 w3 hd hR hW hs k
theorem V_callVr (X : th_X p s m args meth c D cI cZ ad L nL own cc rt) {y : MethodName} {bytes : ByteArray} {maxL : Nat} {ret : Option FieldType} {F N index : Nat} {h1 : th_H} {As : List Value} {stk : List Value} {v : Nat} {q ci : Nat} {C : String} {T : u_T} {NN : Nat} {fs : List Nat} (d : decode cc pc = .ok (.invokevirtual index, 3)) (hM : th_MI l L y bytes maxL ret F N (.ref q :: As) h (some (.ref v)) h1) (hc : Cond.code y bytes maxL ret ∈ th_T) (w0 : Cond.methodLink own index y ∈ th_T) (w1 : Cond.instanceMethod y ∈ th_T) (w2 : Cond.selects C y y ∈ th_T) (w3 : Cond.initialized y.cls ∈ th_T) (hd : y.cls ≠ "java/lang/invoke/MethodHandle" ∧ y.cls ≠ "java/lang/invoke/VarHandle" ∧ (parseMethodDescriptor y.desc).map (fun d => d.parameters.length) = some As.length) (hR : F + 1 ≤ R.frames ∧ 8 + (maxL + 11) + N ≤ R.locals) (hW : (st.map fun v => v.category).sum ≤ 8) (hcl : vwCl[ci]? = some (C, T, NN)) (hL : L[q]? = some (.inr (ci, fs))) (hs : stk = As.reverse ++ .ref q :: st)
    (k : th_V p l e R s m args below meth c D cI cZ ad L nL r hh (pc + 3) ls (.ref v :: st) h1) : th_V p l e R s m args below meth c D cI cZ ad L nL r hh pc ls stk h := V_callV X d hM hc w0 w1 w2 w3 hd hR hW hcl hL hs k
theorem V_callSr (X : th_X p s m args meth c D cI cZ ad L nL own cc rt) {y : MethodName} {bytes : ByteArray} {maxL : Nat} {ret : Option FieldType} {F N index : Nat} {h1 : th_H} {As : List Value} {stk : List Value} {v : Nat} (d : decode cc pc = .ok (.invokestatic index, 3)) (hM : th_MI l L y bytes maxL ret F N As h (some (.ref v)) h1) (hc : Cond.code y bytes maxL ret ∈ th_T) (w0 : Cond.methodLink own index y ∈ th_T) (w1 : Cond.static y ∈ th_T) (w3 : Cond.initialized y.cls ∈ th_T) (hd : y.cls ≠ "java/lang/invoke/MethodHandle" ∧ y.cls ≠ "java/lang/invoke/VarHandle" ∧ (parseMethodDescriptor y.desc).map (fun d => d.parameters.length) = some As.length) (hR : F + 1 ≤ R.frames ∧ 8 + (maxL + 11) + N ≤ R.locals) (hW : (st.map fun v => v.category).sum ≤ 8) (hs : stk = As.reverse ++ st)
    (k : th_V p l e R s m args below meth c D cI cZ ad L nL r hh (pc + 3) ls (.ref v :: st) h1) : th_V p l e R s m args below meth c D cI cZ ad L nL r hh pc ls stk h := V_callS X d hM hc w0 w1 w3 hd hR hW hs k
end ThinRows
