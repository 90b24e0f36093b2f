/-! ===== new objects stand side by side ===== -/
/-- what a new object of the class holds -/
def c0 (c j : Nat) : Int32 := if c = 10 ∨ c = 11 ∨ c = 36 ∨ c = 37 ∨ c = 62 ∨ c = 63 ∨ c = 80 ∨ c = 81 then nI 1000000 else if (c = 1 ∧ j = 13) ∨ (c = 27 ∧ j = 13) ∨ (c = 53 ∧ j = 13) ∨ (c = 71 ∧ j = 13) ∨ (c = 19 ∧ j = 9) ∨ (c = 45 ∧ j = 9) then -1 else 0
theorem c0_0 {c j : Nat} (h : c ≠ 10 ∧ c ≠ 11 ∧ c ≠ 36 ∧ c ≠ 37 ∧ c ≠ 62 ∧ c ≠ 63 ∧ c ≠ 80 ∧ c ≠ 81) (h2 : j ≠ 13) (h3 : j ≠ 9 ∨ (c ≠ 19 ∧ c ≠ 45)) : c0 c j = 0 := by
  unfold c0
  rw [if_neg (by omega), if_neg (by omega)]
theorem c0_a {c j : Nat} (h : c ≠ 10 ∧ c ≠ 11 ∧ c ≠ 36 ∧ c ≠ 37 ∧ c ≠ 62 ∧ c ≠ 63 ∧ c ≠ 80 ∧ c ≠ 81) (h2 : c ≠ 1 ∧ c ≠ 27 ∧ c ≠ 53 ∧ c ≠ 71 ∧ c ≠ 19 ∧ c ≠ 45) : c0 c j = 0 := by
  unfold c0
  rw [if_neg (by omega), if_neg (by omega)]
theorem c0_t {c j : Nat} (h : c = 10 ∨ c = 11) : c0 c j = nI 1000000 := by
  unfold c0
  rw [if_pos (by omega)]
theorem start_rel {h m : th_H} (hc : ∀ c j, c < 91 → h.1 c j = c0 c j) (hm : ∀ c j, c < 5 → m.1 c j = 0) : Rel 0 h m := by
  have th0 : ∀ f, gTh (fun _ => 0) f = false := fun f => rfl
  have ov0 : ∀ f l, gOv (fun _ => 0) f l = false := fun f l => rfl
  have mk0 : ∀ (p : Nat → Bool) n, (∀ f, p f = false) → mk p n = 0 := fun p n hp => by
    apply Nat.eq_of_testBit_eq
    intro i
    rw [mk_bit, hp i, Bool.and_false, Nat.zero_testBit]
  have nth : ∀ f, ¬ gTh (fun _ => 0) f = true := fun f z => by rw [th0] at z; cases z
  have a0 : ∀ c j, c < 91 → (c ≠ 10 ∧ c ≠ 11 ∧ c ≠ 36 ∧ c ≠ 37 ∧ c ≠ 62 ∧ c ≠ 63 ∧ c ≠ 80 ∧ c ≠ 81) → (c ≠ 1 ∧ c ≠ 27 ∧ c ≠ 53 ∧ c ≠ 71 ∧ c ≠ 19 ∧ c ≠ 45) → h.1 c j = 0 := fun c j h1 h2 h3 => by rw [hc c j h1, c0_a h2 h3]
  have b0 : ∀ l, gBnd (fun _ => 0) l = 0 := fun l => by
    unfold gBnd
    have : fb_sm (fun f => if gOv (fun _ => 0) f l = true then gLeast (fun _ => 0) f else 0) 20 = fb_sm (fun _ => 0) 20 := fb_sm_cong (fun f _ => by rw [ov0, if_neg (by decide)])
    rw [this, fb_sm_const]
  have s13 : h.1 1 13 = -1 := by rw [hc 1 13 (by omega)]; rfl
  have s27 : h.1 27 13 = -1 := by rw [hc 27 13 (by omega)]; rfl
  have s19 : h.1 19 9 = -1 := by rw [hc 19 9 (by omega)]; rfl
  have s45 : h.1 45 9 = -1 := by rw [hc 45 9 (by omega)]; rfl
  have z28 : h.1 2 8 = nI 0 := a0 2 8 (by omega) (by omega) (by omega)
  have z288 : h.1 28 8 = nI 0 := a0 28 8 (by omega) (by omega) (by omega)
  have rp : RP 2 h (fun _ => 0) := by
    refine ⟨fun l hl => ?_, fun l hl => ?_, fun f hf => ?_, fun f hf ht => absurd ht (nth f), ?_⟩
    · rw [a0 _ _ (by omega) (by omega) (by omega)]; rfl
    · rw [a0 _ _ (by omega) (by omega) (by omega), mk0 _ 20 (fun f => ov0 f l)]; rfl
    · rw [a0 _ _ (by omega) (by omega) (by omega), if_neg (nth f)]; rfl
    · rw [a0 _ _ (by omega) (by omega) (by omega), mk0 _ 20 th0]; rfl
  have q0 : ∀ j, j ≠ 13 → h.1 1 j = 0 := fun j hj => by rw [hc 1 j (by omega), c0_0 (by omega) hj (by omega)]
  have rq : RQ 1 h (fun _ => 0) := by
    refine ⟨rp, fun f hf ht => absurd ht (nth f), fun l hl => ?_, fun f hf ht => absurd ht (nth f), fun f hf _ => ⟨?_, ?_, fun l hl => ⟨?_, ?_⟩⟩, ?_, ?_, ?_, ?_⟩
    · rw [a0 _ _ (by omega) (by omega) (by omega)]; rfl
    · exact a0 _ _ (by omega) (by omega) (by omega)
    · exact a0 _ _ (by omega) (by omega) (by omega)
    · rw [hc _ _ (by omega), c0_t (by omega)]
    · rw [hc _ _ (by omega), c0_t (by omega)]
    · rw [q0 8 (by omega), mk0 _ 20 (fun f => by rw [th0, Bool.false_and])]; rfl
    · exact q0 9 (by omega)
    · exact q0 10 (by omega)
    · exact q0 11 (by omega)
  have ii : II (fun _ => 0) := by
    refine ⟨⟨⟨fun l hl => Nat.zero_le _, fun f hf => ⟨Nat.zero_le _, fun ht => absurd ht (nth f)⟩⟩, fun l hl => ?_, fun f hf ht => absurd ht (nth f), fun l hl => Nat.zero_le _, fun k _ _ => ?_⟩, fun f g hf hg tf => absurd tf (nth f), fun f hf ht => absurd ht (nth f)⟩
    · rw [b0]; exact Nat.zero_le _
    · show 0 < 4294967296
      omega
  refine ⟨fun _ => 0, rq, fun k hk => hm 2 k (by omega), ii, ⟨fun z => ?_, 0, by omega, z28, Or.inl s13⟩, fun z => ?_, ⟨0, 0, z28, z288, by omega, by omega, Or.inl s13, Or.inl s19, Or.inl s27, Or.inl s45⟩, Or.inl ⟨?_, hm 4 0 (by omega)⟩, Or.inl ⟨?_, hm 4 1 (by omega)⟩, fun j hj => ?_⟩
  · exfalso
    have z2 : h.1 1 13 = h.1 2 8 := z
    rw [s13, z28, e_1n (by omega)] at z2
    exact z2
  · exfalso
    rw [s19, z28, e_1n (by omega)] at z
    exact z
  · exact a0 0 7 (by omega) (by omega) (by omega)
  · exact a0 0 8 (by omega) (by omega) (by omega)
  · rw [a0 89 j (by omega) (by omega) (by omega), hm 1 j (by omega)]
