theorem tn_cell {cI : ClassId} {n : Nat} {f : Nat → Int32} {v : Int32} (h : ∀ i, i < n → f i = v) : vp_cell cI (n, .inl f) = vp_cell cI (n, .inl (fun _ => v)) := by
  have : (fun j : Fin n => Value.int (f j.val)) = (fun j : Fin n => Value.int v) := by funext j; rw [h _ j.isLt]
  show arrV cI n (fun j => .int (f j)) = arrV cI n (fun _ => .int v)
  unfold arrV
  rw [this]
/-- Arrays.fill over a row that a walk holds -/
theorem tn_fill {p : Program} {l : Launch} {e : Env} {R : Room} {s : State} {m : MethodId} {args : Array Value} {below : List Frame} {meth : Method} {c : Code} {H H0 : Heap} {locs : List Loc} {cells slots : Nat} {Q : State → Prop} {cc : ByteArray} {D : va_G} {A : Nat → Prop} {pc : Nat} {ls : Array Slot} {rest : List Value} {own : String} {index nL : Nat} {cI cZ : ClassId} {q : Nat} {v : Int32}
    (S : CallFix p m c cc nL s args th_T own) (hN : th_NW s) (hK : va_K D vwCl [(cI, .int), (cZ, .boolean)] s) (hPc : va_P D vwCl [(q, .inl (cI, 200, .inl (fun _ => 0)))] H) (hFc : ∀ x, va_A [(q, .inl (cI, 200, .inl (fun _ => 0)))] H.size x → A x) (hS : va_S A H0 H locs) (w0 : Cond.methodLink own index yJ7_fill_53178 ∈ th_T) (hR : 0 + 1 ≤ R.frames ∧ 8 + (4 + 11) + 0 ≤ R.locals) (hsize : ls.size = nL) (hW : 2 * (F0 m pc ls (.int v :: .ref q :: rest)).monitorRoom + (rest.map fun v => v.category).sum ≤ 8) (d : decode cc pc = .ok (.invokestatic index, 3)) (hf : cells + 0 ≤ R.cells ∧ slots + 0 ≤ R.slots)
    (kk : ∀ (H1 : Heap) (locs1 : List Loc), va_P D vwCl [(q, .inl (cI, 200, .inl (fun _ => v)))] H1 → va_D (va_A [(q, .inl (cI, 200, .inl (fun _ => 0)))] H.size) [(q, .inl (cI, 200, .inl (fun _ => v)))] → (∀ x : Nat, x < H.size → ¬ va_A [(q, .inl (cI, 200, .inl (fun _ => 0)))] H.size x → H1[x]? = H[x]?) → va_S A H0 H1 locs1 → W p l e R s m args below meth c H1 locs1 cells slots Q (F0 m (pc + 3) ls rest)) : W p l e R s m args below meth c H locs cells slots Q (F0 m pc ls (.int v :: .ref q :: rest)) := by
  obtain ⟨h2, e2, f2, -, -⟩ := c_fill (a := 0) (na := 200) (by decide) v ((fun _ _ => 0, 0) : th_H)
  have hM := nJ7_fill_53178 l 0 200 rfl v _ _ _ e2 D cI cZ (fun _ => q) H.size
  have hdd : th_DD (fun _ => q) LF := by
    intro i j hi hj _
    have h1 : i < 1 := hi
    have h2 : j < 1 := hj
    omega
  have hr : va_Run p l e R s m args below meth c H locs cells slots 0 0 (F0 m pc ls (.int v :: .ref q :: rest)) rest _ _ := va_runS (As := [.ref q, .int v]) S hM (n := 2) ⟨callB_of 2 S.2.2.2.2 (th_good wcd_J7_fill_53178) rfl rfl rfl (S.2.2.2.2 _ win_J7_fill_53178) (S.2.2.2.2 _ w0) hd_J7_fill_53178 hR, S.2.2.2.2 _ wst_J7_fill_53178⟩ ⟨th_blind, fun U hU hW => ⟨rfl, by rw [hU], by rw [hU]; exact hPc, va_K.moved hW.alike hK, hdd, va_Nw.warmM hW hN⟩⟩ rfl rfl hsize rfl hW d hf
  intro T hT Y
  obtain ⟨v', st₀, t, T', L', h0, Y', hL, e1, e2, ⟨⟨hv, hp⟩, hz, hk⟩, sx⟩ := hr T hT Y
  have hv : v' = none := by injection hv
  rw [h0] at hz hk
  have hAA : ∀ x, th_A (fun _ => q) LF H.size x → va_A [(q, .inl (cI, 200, .inl (fun _ => 0)))] H.size x := by
    rintro x (⟨i, -, rfl⟩ | h)
    · exact Or.inl ⟨0, _, rfl⟩
    · exact Or.inr h
  obtain ⟨t2, q1, q2⟩ := kk T'.heap (locs ++ L') (by
      rw [e1]
      intro k x hx
      have h1 : k < 1 := (List.getElem?_eq_some_iff.mp hx).1
      rw [show k = 0 by omega] at hx
      cases hx
      have h3 : t.heap[q]? = some (vp_cell cI (200, .inl (h2.1 0))) := hp 0 _ rfl
      rw [tn_cell f2] at h3
      exact h3)
    ⟨fun i j x y hx hy _ => by
        have h1 : i < 1 := (List.getElem?_eq_some_iff.mp hx).1
        have h2 : j < 1 := (List.getElem?_eq_some_iff.mp hy).1
        omega, fun k x hx => by
        have h1 : k < 1 := (List.getElem?_eq_some_iff.mp hx).1
        rw [show k = 0 by omega] at hx
        cases hx
        exact Or.inl ⟨0, _, rfl⟩⟩
    (fun x g1 g2 => by rw [e1]; exact hk x g1 (fun z => g2 (hAA x z)))
    ⟨Nat.le_trans hS.1 (by rw [e1]; exact hz), fun x g1 g2 => by rw [e1, hk x (Nat.lt_of_lt_of_le g1 hS.1) (fun z => g2 (hFc x (hAA x z)))]; exact hS.2.1 x g1 g2, fun x hx => by
      rcases List.mem_append.mp hx with z | z
      · exact hS.2.2 x z
      · exact hFc _ (hAA _ (hL x z))⟩ T' rfl Y'
  refine ⟨t2, sx t2 ?_, q2⟩
  rw [hv]
  exact q1
