/-! ===== the worlds of new objects ===== -/
def fr_ad (h0 : Nat) (u : Nat → Nat → Nat) (i : Nat) : Nat := [h0, u 0 1, u 1 1, u 1 2, u 1 3, u 1 4, u 1 5, u 1 6, u 1 7, u 1 8, u 1 9, u 1 10, u 1 11, u 1 12, u 1 13, u 1 14, u 1 15, u 1 16, u 1 17, u 0 2, u 2 1, u 2 2, u 2 3, u 2 4, u 2 5, u 2 6, u 2 7, u 0 3, u 3 1, u 3 2, u 3 3, u 3 4, u 3 5, u 3 6, u 3 7, u 3 8, u 3 9, u 3 10, u 3 11, u 3 12, u 3 13, u 3 14, u 3 15, u 3 16, u 3 17, u 0 4, u 4 1, u 4 2, u 4 3, u 4 4, u 4 5, u 4 6, u 4 7, u 0 5, u 5 1, u 5 2, u 5 3, u 5 4, u 5 5, u 5 6, u 5 7, u 5 8, u 5 9, u 5 10, u 5 11, u 5 12, u 5 13, u 5 14, u 5 15, u 5 16, u 5 17, u 0 6, u 6 1, u 6 2, u 6 3, u 6 4, u 6 5, u 6 6, u 6 7, u 6 8, u 6 9, u 6 10, u 6 11, u 6 12, u 6 13, u 6 14, u 6 15, u 6 16, u 6 17, u 0 7, u 0 8].getD i 0
def fr_h : List (Nat → Int32) := [(fun _ => 0), (fun j => if j = 13 then -1 else 0), (fun _ => 0), (fun _ => 0), (fun _ => 0), (fun _ => 0), (fun _ => 0), (fun _ => 0), (fun _ => 0), (fun _ => 0), (fun _ => 1000000), (fun _ => 1000000), (fun _ => 0), (fun _ => 0), (fun _ => 0), (fun _ => 0), (fun _ => 0), (fun _ => 0), (fun _ => 0), (fun j => if j = 9 then -1 else 0), (fun _ => 0), (fun _ => 0), (fun _ => 0), (fun _ => 0), (fun _ => 0), (fun _ => 0), (fun _ => 0), (fun j => if j = 13 then -1 else 0), (fun _ => 0), (fun _ => 0), (fun _ => 0), (fun _ => 0), (fun _ => 0), (fun _ => 0), (fun _ => 0), (fun _ => 0), (fun _ => 1000000), (fun _ => 1000000), (fun _ => 0), (fun _ => 0), (fun _ => 0), (fun _ => 0), (fun _ => 0), (fun _ => 0), (fun _ => 0), (fun j => if j = 9 then -1 else 0), (fun _ => 0), (fun _ => 0), (fun _ => 0), (fun _ => 0), (fun _ => 0), (fun _ => 0), (fun _ => 0), (fun j => if j = 13 then -1 else 0), (fun _ => 0), (fun _ => 0), (fun _ => 0), (fun _ => 0), (fun _ => 0), (fun _ => 0), (fun _ => 0), (fun _ => 0), (fun _ => 1000000), (fun _ => 1000000), (fun _ => 0), (fun _ => 0), (fun _ => 0), (fun _ => 0), (fun _ => 0), (fun _ => 0), (fun _ => 0), (fun j => if j = 13 then -1 else 0), (fun _ => 0), (fun _ => 0), (fun _ => 0), (fun _ => 0), (fun _ => 0), (fun _ => 0), (fun _ => 0), (fun _ => 0), (fun _ => 1000000), (fun _ => 1000000), (fun _ => 0), (fun _ => 0), (fun _ => 0), (fun _ => 0), (fun _ => 0), (fun _ => 0), (fun _ => 0), (fun _ => 0), (fun _ => 0)]
def fr_H : th_H := (fun i => fr_h.getD i (fun _ => 0), 0)
def mo_ad (h0 : Nat) (q : Nat → Nat) (i : Nat) : Nat := if i = 0 then h0 else q i
def mo_H : th_H := (fun _ _ => 0, 0)
set_option maxHeartbeats 4000000 in
set_option maxRecDepth 100000 in
theorem mo_W (cI cZ : ClassId) (h0 : Nat) (q : Nat → Nat) : mo_1 cI cZ h0 q = th_W cI cZ (mo_ad h0 q) LM mo_H := rfl
set_option maxHeartbeats 4000000 in
set_option maxRecDepth 100000 in
theorem fr_c0 : ∀ c j, c < 91 → fr_H.1 c j = c0 c j := by
  intro c j hc
  show fr_h.getD c (fun _ => 0) j = c0 c j
  by_cases h1 : c = 10 ∨ c = 11 ∨ c = 36 ∨ c = 37 ∨ c = 62 ∨ c = 63 ∨ c = 80 ∨ c = 81
  · have e : c0 c j = 1000000 := by unfold c0; rw [if_pos h1]; rfl
    rw [e]
    rcases h1 with rfl | rfl | rfl | rfl | rfl | rfl | rfl | rfl <;> rfl
  · by_cases h2 : c = 1 ∨ c = 27 ∨ c = 53 ∨ c = 71
    · have e : c0 c j = if j = 13 then -1 else 0 := by
        unfold c0
        rw [if_neg h1]
        by_cases h3 : j = 13
        · rw [if_pos h3, if_pos (by omega)]
        · rw [if_neg h3, if_neg (by omega)]
      rw [e]
      rcases h2 with rfl | rfl | rfl | rfl <;> rfl
    · by_cases h3 : c = 19 ∨ c = 45
      · have e : c0 c j = if j = 9 then -1 else 0 := by
          unfold c0
          rw [if_neg h1]
          by_cases h4 : j = 9
          · rw [if_pos h4, if_pos (by omega)]
          · rw [if_neg h4, if_neg (by omega)]
        rw [e]
        rcases h3 with rfl | rfl <;> rfl
      · rw [c0_a (by omega) (by omega)]
        have key : ∀ d, d < 91 → ¬(d = 10 ∨ d = 11 ∨ d = 36 ∨ d = 37 ∨ d = 62 ∨ d = 63 ∨ d = 80 ∨ d = 81) → ¬(d = 1 ∨ d = 27 ∨ d = 53 ∨ d = 71) → ¬(d = 19 ∨ d = 45) → fr_h.getD d (fun _ => 0) j = 0 := by
          intro d hd a1 a2 a3
          match d, hd, a1, a2, a3 with
          | 0, _, _, _, _ => rfl
          | 1, _, a1, a2, a3 => exact absurd (by omega) a2
          | 2, _, _, _, _ => rfl
          | 3, _, _, _, _ => rfl
          | 4, _, _, _, _ => rfl
          | 5, _, _, _, _ => rfl
          | 6, _, _, _, _ => rfl
          | 7, _, _, _, _ => rfl
          | 8, _, _, _, _ => rfl
          | 9, _, _, _, _ => rfl
          | 10, _, a1, a2, a3 => exact absurd (by omega) a1
          | 11, _, a1, a2, a3 => exact absurd (by omega) a1
          | 12, _, _, _, _ => rfl
          | 13, _, _, _, _ => rfl
          | 14, _, _, _, _ => rfl
          | 15, _, _, _, _ => rfl
          | 16, _, _, _, _ => rfl
          | 17, _, _, _, _ => rfl
          | 18, _, _, _, _ => rfl
          | 19, _, a1, a2, a3 => exact absurd (by omega) a3
          | 20, _, _, _, _ => rfl
          | 21, _, _, _, _ => rfl
          | 22, _, _, _, _ => rfl
          | 23, _, _, _, _ => rfl
          | 24, _, _, _, _ => rfl
          | 25, _, _, _, _ => rfl
          | 26, _, _, _, _ => rfl
          | 27, _, a1, a2, a3 => exact absurd (by omega) a2
          | 28, _, _, _, _ => rfl
          | 29, _, _, _, _ => rfl
          | 30, _, _, _, _ => rfl
          | 31, _, _, _, _ => rfl
          | 32, _, _, _, _ => rfl
          | 33, _, _, _, _ => rfl
          | 34, _, _, _, _ => rfl
          | 35, _, _, _, _ => rfl
          | 36, _, a1, a2, a3 => exact absurd (by omega) a1
          | 37, _, a1, a2, a3 => exact absurd (by omega) a1
          | 38, _, _, _, _ => rfl
          | 39, _, _, _, _ => rfl
          | 40, _, _, _, _ => rfl
          | 41, _, _, _, _ => rfl
          | 42, _, _, _, _ => rfl
          | 43, _, _, _, _ => rfl
          | 44, _, _, _, _ => rfl
          | 45, _, a1, a2, a3 => exact absurd (by omega) a3
          | 46, _, _, _, _ => rfl
          | 47, _, _, _, _ => rfl
          | 48, _, _, _, _ => rfl
          | 49, _, _, _, _ => rfl
          | 50, _, _, _, _ => rfl
          | 51, _, _, _, _ => rfl
          | 52, _, _, _, _ => rfl
          | 53, _, a1, a2, a3 => exact absurd (by omega) a2
          | 54, _, _, _, _ => rfl
          | 55, _, _, _, _ => rfl
          | 56, _, _, _, _ => rfl
          | 57, _, _, _, _ => rfl
          | 58, _, _, _, _ => rfl
          | 59, _, _, _, _ => rfl
          | 60, _, _, _, _ => rfl
          | 61, _, _, _, _ => rfl
          | 62, _, a1, a2, a3 => exact absurd (by omega) a1
          | 63, _, a1, a2, a3 => exact absurd (by omega) a1
          | 64, _, _, _, _ => rfl
          | 65, _, _, _, _ => rfl
          | 66, _, _, _, _ => rfl
          | 67, _, _, _, _ => rfl
          | 68, _, _, _, _ => rfl
          | 69, _, _, _, _ => rfl
          | 70, _, _, _, _ => rfl
          | 71, _, a1, a2, a3 => exact absurd (by omega) a2
          | 72, _, _, _, _ => rfl
          | 73, _, _, _, _ => rfl
          | 74, _, _, _, _ => rfl
          | 75, _, _, _, _ => rfl
          | 76, _, _, _, _ => rfl
          | 77, _, _, _, _ => rfl
          | 78, _, _, _, _ => rfl
          | 79, _, _, _, _ => rfl
          | 80, _, a1, a2, a3 => exact absurd (by omega) a1
          | 81, _, a1, a2, a3 => exact absurd (by omega) a1
          | 82, _, _, _, _ => rfl
          | 83, _, _, _, _ => rfl
          | 84, _, _, _, _ => rfl
          | 85, _, _, _, _ => rfl
          | 86, _, _, _, _ => rfl
          | 87, _, _, _, _ => rfl
          | 88, _, _, _, _ => rfl
          | 89, _, _, _, _ => rfl
          | 90, _, _, _, _ => rfl
          | n + 91, hd, _, _, _ => omega
        exact key c hc h1 h2 h3
theorem fr_start : Rel 0 fr_H mo_H := start_rel fr_c0 (fun _ _ _ => rfl)
