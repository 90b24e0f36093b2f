def LC : th_L := [.inr (3, [3, 4, 21, 29, 47, 55, 73, 0, 0, 91, 92]), .inr (1, [4, 12, 13, 14, 15, 16, 17, 18, 0, 0, 0, 0, 19, 0, 20, 0]), .inr (0, [5, 6, 7, 8, 9, 10, 11, 0, 0]), .inl (10, false), .inl (10, false), .inl (20, false), .inl (20, false), .inl (20, false), .inl (20, false), .inl (20, false), .inl (200, false), .inl (200, false), .inl (20, false), .inl (10, false), .inl (20, false), .inl (20, false), .inl (20, false), .inl (10, false), .inl (20, false), .inr (2, [4, 22, 23, 24, 25, 26, 27, 28, 0, 0]), .inl (20, false), .inl (20, false), .inl (20, false), .inl (20, false), .inl (20, false), .inl (20, false), .inl (10, false), .inr (1, [30, 38, 39, 40, 41, 42, 43, 44, 0, 0, 0, 0, 45, 0, 46, 0]), .inr (0, [31, 32, 33, 34, 35, 36, 37, 0, 0]), .inl (10, false), .inl (10, false), .inl (20, false), .inl (20, false), .inl (20, false), .inl (20, false), .inl (20, false), .inl (200, false), .inl (200, false), .inl (20, false), .inl (10, false), .inl (20, false), .inl (20, false), .inl (20, false), .inl (10, false), .inl (20, false), .inr (2, [30, 48, 49, 50, 51, 52, 53, 54, 0, 0]), .inl (20, false), .inl (20, false), .inl (20, false), .inl (20, false), .inl (20, false), .inl (20, false), .inl (10, false), .inr (1, [56, 64, 65, 66, 67, 68, 69, 70, 0, 0, 0, 0, 71, 0, 72, 0]), .inr (0, [57, 58, 59, 60, 61, 62, 63, 0, 0]), .inl (10, false), .inl (10, false), .inl (20, false), .inl (20, false), .inl (20, false), .inl (20, false), .inl (20, false), .inl (200, false), .inl (200, false), .inl (20, false), .inl (10, false), .inl (20, false), .inl (20, false), .inl (20, false), .inl (10, false), .inl (20, false), .inr (1, [74, 82, 83, 84, 85, 86, 87, 88, 0, 0, 0, 0, 89, 0, 90, 0]), .inr (0, [75, 76, 77, 78, 79, 80, 81, 0, 0]), .inl (10, false), .inl (10, false), .inl (20, false), .inl (20, false), .inl (20, false), .inl (20, false), .inl (20, false), .inl (200, false), .inl (200, false), .inl (20, false), .inl (10, false), .inl (20, false), .inl (20, false), .inl (20, false), .inl (10, false), .inl (20, false), .inl (5, false), .inl (21, false)]
def LM : th_L := [.inr (4, [0, 3, 4, 5, 6, 7, 8, 9, 10, 11, 12, 13, 14, 0, 15, 0, 16, 1]), .inl (5, false), .inl (643, false), .inl (1286, false), .inl (2, true), .inl (643, false), .inl (420, false), .inl (20, false), .inl (20, false), .inl (20, false), .inl (20, false), .inl (20, false), .inl (20, false), .inl (10, false), .inl (20, false)]
def LM_chk : Bool := LM.zipIdx.all fun q => match q.1 with | .inl _ => true | .inr (_, fs) => fs.zipIdx.all fun z => z.1 != 1 || (q.2 == 0 && z.2 == 17)
theorem LM_one : ∀ (i : Nat) (ci' : Nat) (fs' : List Nat), LM[i]? = some (.inr (ci', fs')) → ∀ j', fs'[j']? = some 1 → i = 0 ∧ j' = 17 := by
  intro i ci' fs' h j' hj
  have hc : LM_chk = true := by decide +kernel
  have h1 := List.all_eq_true.mp hc (.inr (ci', fs'), i) (by rw [List.mem_zipIdx_iff_getElem?]; exact h)
  have h2 := List.all_eq_true.mp h1 (1, j') (by rw [List.mem_zipIdx_iff_getElem?]; exact hj)
  simpa using h2
def fsP (p : Nat) : List Nat := [p + 1 + 2, p + 2 + 2, p + 3 + 2, p + 4 + 2, p + 5 + 2, p + 6 + 2, p + 7 + 2, 0, 0]
def isP (p : Nat) : Prop := LC[p]? = some (.inr (0, fsP p)) ∧ LC[p + 1]? = some (.inl (10, false)) ∧ LC[p + 2]? = some (.inl (10, false)) ∧ LC[p + 3]? = some (.inl (20, false)) ∧ LC[p + 4]? = some (.inl (20, false)) ∧ LC[p + 5]? = some (.inl (20, false)) ∧ LC[p + 6]? = some (.inl (20, false)) ∧ LC[p + 7]? = some (.inl (20, false))
theorem P_0 {p : Nat} (h : isP p) : LC[p]? = some (.inr (0, fsP p)) := h.1
theorem P_1 {p : Nat} (h : isP p) : LC[p + 1]? = some (.inl (10, false)) := h.2.1
theorem P_2 {p : Nat} (h : isP p) : LC[p + 2]? = some (.inl (10, false)) := h.2.2.1
theorem P_3 {p : Nat} (h : isP p) : LC[p + 3]? = some (.inl (20, false)) := h.2.2.2.1
theorem P_4 {p : Nat} (h : isP p) : LC[p + 4]? = some (.inl (20, false)) := h.2.2.2.2.1
theorem P_5 {p : Nat} (h : isP p) : LC[p + 5]? = some (.inl (20, false)) := h.2.2.2.2.2.1
theorem P_6 {p : Nat} (h : isP p) : LC[p + 6]? = some (.inl (20, false)) := h.2.2.2.2.2.2.1
theorem P_7 {p : Nat} (h : isP p) : LC[p + 7]? = some (.inl (20, false)) := h.2.2.2.2.2.2.2
def fsQ (q : Nat) : List Nat := [q + 1 + 2, q + 9 + 2, q + 10 + 2, q + 11 + 2, q + 12 + 2, q + 13 + 2, q + 14 + 2, q + 15 + 2, 0, 0, 0, 0, q + 16 + 2, 0, q + 17 + 2, 0]
def isQ (q : Nat) : Prop := LC[q]? = some (.inr (1, fsQ q)) ∧ isP (q + 1) ∧ LC[q + 9]? = some (.inl (200, false)) ∧ LC[q + 10]? = some (.inl (200, false)) ∧ LC[q + 11]? = some (.inl (20, false)) ∧ LC[q + 12]? = some (.inl (10, false)) ∧ LC[q + 13]? = some (.inl (20, false)) ∧ LC[q + 14]? = some (.inl (20, false)) ∧ LC[q + 15]? = some (.inl (20, false)) ∧ LC[q + 16]? = some (.inl (10, false)) ∧ LC[q + 17]? = some (.inl (20, false))
theorem Q_0 {q : Nat} (h : isQ q) : LC[q]? = some (.inr (1, fsQ q)) := h.1
theorem Q_p {q : Nat} (h : isQ q) : isP (q + 1) := h.2.1
theorem Q_9 {q : Nat} (h : isQ q) : LC[q + 9]? = some (.inl (200, false)) := h.2.2.1
theorem Q_10 {q : Nat} (h : isQ q) : LC[q + 10]? = some (.inl (200, false)) := h.2.2.2.1
theorem Q_11 {q : Nat} (h : isQ q) : LC[q + 11]? = some (.inl (20, false)) := h.2.2.2.2.1
theorem Q_12 {q : Nat} (h : isQ q) : LC[q + 12]? = some (.inl (10, false)) := h.2.2.2.2.2.1
theorem Q_13 {q : Nat} (h : isQ q) : LC[q + 13]? = some (.inl (20, false)) := h.2.2.2.2.2.2.1
theorem Q_14 {q : Nat} (h : isQ q) : LC[q + 14]? = some (.inl (20, false)) := h.2.2.2.2.2.2.2.1
theorem Q_15 {q : Nat} (h : isQ q) : LC[q + 15]? = some (.inl (20, false)) := h.2.2.2.2.2.2.2.2.1
theorem Q_16 {q : Nat} (h : isQ q) : LC[q + 16]? = some (.inl (10, false)) := h.2.2.2.2.2.2.2.2.2.1
theorem Q_17 {q : Nat} (h : isQ q) : LC[q + 17]? = some (.inl (20, false)) := h.2.2.2.2.2.2.2.2.2.2
def fsW (w p : Nat) : List Nat := [p + 2, w + 1 + 2, w + 2 + 2, w + 3 + 2, w + 4 + 2, w + 5 + 2, w + 6 + 2, w + 7 + 2, 0, 0]
def isW (w p : Nat) : Prop := LC[w]? = some (.inr (2, fsW w p)) ∧ isP p ∧ LC[w + 1]? = some (.inl (20, false)) ∧ LC[w + 2]? = some (.inl (20, false)) ∧ LC[w + 3]? = some (.inl (20, false)) ∧ LC[w + 4]? = some (.inl (20, false)) ∧ LC[w + 5]? = some (.inl (20, false)) ∧ LC[w + 6]? = some (.inl (20, false)) ∧ LC[w + 7]? = some (.inl (10, false))
theorem W_0 {w p : Nat} (h : isW w p) : LC[w]? = some (.inr (2, fsW w p)) := h.1
theorem W_p {w p : Nat} (h : isW w p) : isP p := h.2.1
theorem W_1 {w p : Nat} (h : isW w p) : LC[w + 1]? = some (.inl (20, false)) := h.2.2.1
theorem W_2 {w p : Nat} (h : isW w p) : LC[w + 2]? = some (.inl (20, false)) := h.2.2.2.1
theorem W_3 {w p : Nat} (h : isW w p) : LC[w + 3]? = some (.inl (20, false)) := h.2.2.2.2.1
theorem W_4 {w p : Nat} (h : isW w p) : LC[w + 4]? = some (.inl (20, false)) := h.2.2.2.2.2.1
theorem W_5 {w p : Nat} (h : isW w p) : LC[w + 5]? = some (.inl (20, false)) := h.2.2.2.2.2.2.1
theorem W_6 {w p : Nat} (h : isW w p) : LC[w + 6]? = some (.inl (20, false)) := h.2.2.2.2.2.2.2.1
theorem W_7 {w p : Nat} (h : isW w p) : LC[w + 7]? = some (.inl (10, false)) := h.2.2.2.2.2.2.2.2
theorem isP_2 : isP 2 := ⟨rfl, rfl, rfl, rfl, rfl, rfl, rfl, rfl⟩
theorem isP_28 : isP 28 := ⟨rfl, rfl, rfl, rfl, rfl, rfl, rfl, rfl⟩
theorem isP_54 : isP 54 := ⟨rfl, rfl, rfl, rfl, rfl, rfl, rfl, rfl⟩
theorem isP_72 : isP 72 := ⟨rfl, rfl, rfl, rfl, rfl, rfl, rfl, rfl⟩
theorem isQ_1 : isQ 1 := ⟨rfl, isP_2, rfl, rfl, rfl, rfl, rfl, rfl, rfl, rfl, rfl⟩
theorem isQ_27 : isQ 27 := ⟨rfl, isP_28, rfl, rfl, rfl, rfl, rfl, rfl, rfl, rfl, rfl⟩
theorem isQ_53 : isQ 53 := ⟨rfl, isP_54, rfl, rfl, rfl, rfl, rfl, rfl, rfl, rfl, rfl⟩
theorem isQ_71 : isQ 71 := ⟨rfl, isP_72, rfl, rfl, rfl, rfl, rfl, rfl, rfl, rfl, rfl⟩
theorem isW_19 : isW 19 2 := ⟨rfl, isP_2, rfl, rfl, rfl, rfl, rfl, rfl, rfl⟩
theorem isW_45 : isW 45 28 := ⟨rfl, isP_28, rfl, rfl, rfl, rfl, rfl, rfl, rfl⟩
theorem iX0 : ∀ w ∈ u_ws RX0 TX0 9, w ∈ th_T := th_lay tables_1_1 (fun w h => List.mem_append_left _ h) [59, 61, 63, 65, 67, 69, 71, 73, 75] (by decide +kernel)
theorem iX1 : ∀ w ∈ u_ws RX1 TX1 16, w ∈ th_T := th_lay tables_1_1 (fun w h => List.mem_append_left _ h) [108, 110, 112, 114, 116, 118, 120, 122, 124, 126, 128, 130, 132, 134, 136, 138] (by decide +kernel)
theorem iX2 : ∀ w ∈ u_ws RX2 TX2 10, w ∈ th_T := th_lay tables_1_1 (fun w h => List.mem_append_left _ h) [164, 166, 168, 170, 172, 174, 176, 178, 180, 182] (by decide +kernel)
theorem iX3 : ∀ w ∈ u_ws RX3 TX3 11, w ∈ th_T := th_lay tables_1_1 (fun w h => List.mem_append_left _ h) [196, 198, 200, 202, 204, 206, 208, 210, 212, 214, 216] (by decide +kernel)
theorem iX4 : ∀ w ∈ u_ws RX4 TX4 18, w ∈ th_T := th_lay tables_1_4 (fun w h => List.mem_append_right _ (List.mem_append_right _ (List.mem_append_right _ (List.mem_append_left _ h)))) [152, 154, 156, 158, 160, 162, 164, 166, 168, 170, 172, 174, 176, 178, 180, 182, 184, 186] (by decide +kernel)
theorem wac_in : Cond.initialized "java/lang/System" ∈ th_T := th_in1 9 (by decide +kernel) rfl
theorem wac_nat : Cond.native arraycopyName ∈ th_T := th_in2 234 (by decide +kernel) rfl
theorem wac_st : Cond.static arraycopyName ∈ th_T := th_in2 233 (by decide +kernel) rfl
theorem wcd_J6_bitCount_0f7a4 : Cond.code yJ6_bitCount_0f7a4 cJ6_bitCount_0f7a4 1 (some .int) ∈ th_T := th_in2 75 (by decide +kernel) rfl
theorem wcd_J6_numberOfTrailingZeros_0f7a4 : Cond.code yJ6_numberOfTrailingZeros_0f7a4 cJ6_numberOfTrailingZeros_0f7a4 2 (some .int) ∈ th_T := th_in3 39 (by decide +kernel) rfl
theorem wcd_J7_fill_53178 : Cond.code yJ7_fill_53178 cJ7_fill_53178 4 none ∈ th_T := th_in1 82 (by decide +kernel) rfl
theorem wcd_J9_abs_0f7a4 : Cond.code Lib.Math.abs.name Lib.Math.abs.code 1 (some .int) ∈ th_T := th_in3 161 (by decide +kernel) rfl
theorem wcd_J9_max_7cf53 : Cond.code Lib.Math.max.name Lib.Math.max.code 2 (some .int) ∈ th_T := th_in2 175 (by decide +kernel) rfl
theorem wcd_J9_min_7cf53 : Cond.code Lib.Math.min.name Lib.Math.min.code 2 (some .int) ∈ th_T := th_in2 163 (by decide +kernel) rfl
theorem wcd_X0_add : Cond.code yX0_add cX0_add 7 (some .int) ∈ th_T := th_in2 42 (by decide +kernel) rfl
theorem wcd_X0_boundOf : Cond.code yX0_boundOf cX0_boundOf 4 (some .int) ∈ th_T := th_in1 237 (by decide +kernel) rfl
theorem wcd_X0_byWeight : Cond.code yX0_byWeight cX0_byWeight 3 (some .int) ∈ th_T := th_in2 139 (by decide +kernel) rfl
theorem wcd_X0_copy : Cond.code yX0_copy cX0_copy 2 none ∈ th_T := th_in2 231 (by decide +kernel) rfl
theorem wcd_X0_flowNamed : Cond.code yX0_flowNamed cX0_flowNamed 3 (some .int) ∈ th_T := th_in2 34 (by decide +kernel) rfl
theorem wcd_X0_freeNumber : Cond.code yX0_freeNumber cX0_freeNumber 2 (some .int) ∈ th_T := th_in2 21 (by decide +kernel) rfl
theorem wcd_X0_goesOver : Cond.code yX0_goesOver cX0_goesOver 3 (some .boolean) ∈ th_T := th_in2 51 (by decide +kernel) rfl
theorem wcd_X0_greatestLevel : Cond.code yX0_greatestLevel cX0_greatestLevel 11 (some .int) ∈ th_T := th_in2 167 (by decide +kernel) rfl
theorem wcd_X0_has : Cond.code yX0_has cX0_has 2 (some .boolean) ∈ th_T := th_in2 25 (by decide +kernel) rfl
theorem wcd_X0_hasRoom : Cond.code yX0_hasRoom cX0_hasRoom 4 (some .boolean) ∈ th_T := th_in2 29 (by decide +kernel) rfl
theorem wcd_X0_linksInUse : Cond.code yX0_linksInUse cX0_linksInUse 3 (some .int) ∈ th_T := th_in4 23 (by decide +kernel) rfl
theorem wcd_X0_ownOf : Cond.code yX0_ownOf cX0_ownOf 2 (some .int) ∈ th_T := th_in2 135 (by decide +kernel) rfl
theorem wcd_X0_partOf : Cond.code yX0_partOf cX0_partOf 3 (some .int) ∈ th_T := th_in2 89 (by decide +kernel) rfl
theorem wcd_X0_rateBy : Cond.code yX0_rateBy cX0_rateBy 3 (some .int) ∈ th_T := th_in2 172 (by decide +kernel) rfl
theorem wcd_X0_remove : Cond.code yX0_remove cX0_remove 2 none ∈ th_T := th_in2 64 (by decide +kernel) rfl
theorem wcd_X0_setCapacity : Cond.code yX0_setCapacity cX0_setCapacity 3 none ∈ th_T := th_in2 1 (by decide +kernel) rfl
theorem wcd_X0_setPart : Cond.code yX0_setPart cX0_setPart 4 none ∈ th_T := th_in2 93 (by decide +kernel) rfl
theorem wcd_X0_setPath : Cond.code yX0_setPath cX0_setPath 5 none ∈ th_T := th_in2 47 (by decide +kernel) rfl
theorem wcd_X1_allToLose : Cond.code yX1_allToLose cX1_allToLose 3 (some .int) ∈ th_T := th_in4 36 (by decide +kernel) rfl
theorem wcd_X1_arriveBack : Cond.code yX1_arriveBack cX1_arriveBack 3 (some .int) ∈ th_T := th_in2 184 (by decide +kernel) rfl
theorem wcd_X1_arriveForth : Cond.code yX1_arriveForth cX1_arriveForth 3 (some .int) ∈ th_T := th_in2 144 (by decide +kernel) rfl
theorem wcd_X1_bookedAt : Cond.code yX1_bookedAt cX1_bookedAt 4 (some .int) ∈ th_T := th_in3 140 (by decide +kernel) rfl
theorem wcd_X1_copy : Cond.code yX1_copy cX1_copy 2 none ∈ th_T := th_in2 227 (by decide +kernel) rfl
theorem wcd_X1_elsewhere : Cond.code yX1_elsewhere cX1_elsewhere 3 (some .int) ∈ th_T := th_in2 160 (by decide +kernel) rfl
theorem wcd_X1_findMarks : Cond.code yX1_findMarks cX1_findMarks 6 (some .int) ∈ th_T := th_in3 119 (by decide +kernel) rfl
theorem wcd_X1_forgetAll : Cond.code yX1_forgetAll cX1_forgetAll 2 none ∈ th_T := th_in2 219 (by decide +kernel) rfl
theorem wcd_X1_forgetAt : Cond.code yX1_forgetAt cX1_forgetAt 3 none ∈ th_T := th_in2 72 (by decide +kernel) rfl
theorem wcd_X1_forgetFlow : Cond.code yX1_forgetFlow cX1_forgetFlow 3 none ∈ th_T := th_in2 68 (by decide +kernel) rfl
theorem wcd_X1_goOn : Cond.code yX1_goOn cX1_goOn 3 (some .int) ∈ th_T := th_in2 127 (by decide +kernel) rfl
theorem wcd_X1_goRound : Cond.code yX1_goRound cX1_goRound 2 (some .boolean) ∈ th_T := th_in2 208 (by decide +kernel) rfl
theorem wcd_X1_highestBelow : Cond.code yX1_highestBelow cX1_highestBelow 4 (some .int) ∈ th_T := th_in2 192 (by decide +kernel) rfl
theorem wcd_X1_isHeld : Cond.code yX1_isHeld cX1_isHeld 2 (some .boolean) ∈ th_T := th_in2 101 (by decide +kernel) rfl
theorem wcd_X1_isLostAt : Cond.code yX1_isLostAt cX1_isLostAt 2 (some .boolean) ∈ th_T := th_in2 152 (by decide +kernel) rfl
theorem wcd_X1_isMarked : Cond.code yX1_isMarked cX1_isMarked 3 (some .boolean) ∈ th_T := th_in3 132 (by decide +kernel) rfl
theorem wcd_X1_letGo : Cond.code yX1_letGo cX1_letGo 2 none ∈ th_T := th_in2 60 (by decide +kernel) rfl
theorem wcd_X1_lowestFrom : Cond.code yX1_lowestFrom cX1_lowestFrom 4 (some .int) ∈ th_T := th_in2 131 (by decide +kernel) rfl
theorem wcd_X1_markBelow : Cond.code yX1_markBelow cX1_markBelow 6 (some .boolean) ∈ th_T := th_in3 123 (by decide +kernel) rfl
theorem wcd_X1_markCount : Cond.code yX1_markCount cX1_markCount 4 (some .int) ∈ th_T := th_in4 27 (by decide +kernel) rfl
theorem wcd_X1_offerOf : Cond.code yX1_offerOf cX1_offerOf 3 (some .int) ∈ th_T := th_in2 156 (by decide +kernel) rfl
theorem wcd_X1_overbooked : Cond.code yX1_overbooked cX1_overbooked 3 (some .int) ∈ th_T := th_in3 149 (by decide +kernel) rfl
theorem wcd_X1_reroute : Cond.code yX1_reroute cX1_reroute 4 none ∈ th_T := th_in2 113 (by decide +kernel) rfl
theorem wcd_X1_send : Cond.code yX1_send cX1_send 5 none ∈ th_T := th_in2 200 (by decide +kernel) rfl
theorem wcd_X1_takeIn : Cond.code yX1_takeIn cX1_takeIn 6 (some .int) ∈ th_T := th_in2 38 (by decide +kernel) rfl
theorem wcd_X1_tell : Cond.code yX1_tell cX1_tell 3 none ∈ th_T := th_in2 180 (by decide +kernel) rfl
theorem wcd_X1_tellAhead : Cond.code yX1_tellAhead cX1_tellAhead 4 none ∈ th_T := th_in2 148 (by decide +kernel) rfl
theorem wcd_X1_tellBehind : Cond.code yX1_tellBehind cX1_tellBehind 4 none ∈ th_T := th_in2 188 (by decide +kernel) rfl
theorem wcd_X1_underWay : Cond.code yX1_underWay cX1_underWay 3 (some .int) ∈ th_T := th_in4 32 (by decide +kernel) rfl
theorem wcd_X2_below : Cond.code yX2_below cX2_below 5 (some .int) ∈ th_T := th_in3 84 (by decide +kernel) rfl
theorem wcd_X2_fix : Cond.code yX2_fix cX2_fix 5 none ∈ th_T := th_in3 36 (by decide +kernel) rfl
theorem wcd_X2_fixedBy : Cond.code yX2_fixedBy cX2_fixedBy 6 (some .int) ∈ th_T := th_in3 32 (by decide +kernel) rfl
theorem wcd_X2_fullnessOf : Cond.code yX2_fullnessOf cX2_fullnessOf 6 (some .int) ∈ th_T := th_in3 93 (by decide +kernel) rfl
theorem wcd_X2_greatestLevel : Cond.code yX2_greatestLevel cX2_greatestLevel 3 (some .int) ∈ th_T := th_in3 67 (by decide +kernel) rfl
theorem wcd_X2_leastLevel : Cond.code yX2_leastLevel cX2_leastLevel 3 (some .int) ∈ th_T := th_in3 63 (by decide +kernel) rfl
theorem wcd_X2_leftOf : Cond.code yX2_leftOf cX2_leftOf 2 (some .int) ∈ th_T := th_in3 49 (by decide +kernel) rfl
theorem wcd_X2_linksAt : Cond.code yX2_linksAt cX2_linksAt 4 (some .int) ∈ th_T := th_in3 28 (by decide +kernel) rfl
theorem wcd_X2_nextSurface : Cond.code yX2_nextSurface cX2_nextSurface 4 (some .int) ∈ th_T := th_in3 21 (by decide +kernel) rfl
theorem wcd_X2_rankOf : Cond.code yX2_rankOf cX2_rankOf 5 (some .int) ∈ th_T := th_in3 80 (by decide +kernel) rfl
theorem wcd_X2_rateOf : Cond.code yX2_rateOf cX2_rateOf 2 (some .int) ∈ th_T := th_in3 103 (by decide +kernel) rfl
theorem wcd_X2_ratesOf : Cond.code yX2_ratesOf cX2_ratesOf 4 (some .int) ∈ th_T := th_in3 44 (by decide +kernel) rfl
theorem wcd_X2_rise : Cond.code yX2_rise cX2_rise 6 none ∈ th_T := th_in3 15 (by decide +kernel) rfl
theorem wcd_X2_witnessedBy : Cond.code yX2_witnessedBy cX2_witnessedBy 4 (some .int) ∈ th_T := th_in3 54 (by decide +kernel) rfl
theorem wcd_X3_blow : Cond.code yX3_blow cX3_blow 3 (some .int) ∈ th_T := th_in4 3 (by decide +kernel) rfl
theorem wcd_X3_canBe : Cond.code yX3_canBe cX3_canBe 2 (some .boolean) ∈ th_T := th_in2 85 (by decide +kernel) rfl
theorem wcd_X3_commonDivisor : Cond.code yX3_commonDivisor cX3_commonDivisor 11 (some .long) ∈ th_T := th_in3 106 (by decide +kernel) rfl
theorem wcd_X3_draw : Cond.code yX3_draw cX3_draw 1 (some .int) ∈ th_T := th_in4 6 (by decide +kernel) rfl
theorem wcd_X3_farFromFair : Cond.code yX3_farFromFair cX3_farFromFair 5 (some .long) ∈ th_T := th_in3 158 (by decide +kernel) rfl
theorem wcd_X3_isAmount : Cond.code yX3_isAmount cX3_isAmount 1 (some .boolean) ∈ th_T := th_in1 228 (by decide +kernel) rfl
theorem wcd_X3_isLink : Cond.code yX3_isLink cX3_isLink 1 (some .boolean) ∈ th_T := th_in1 225 (by decide +kernel) rfl
theorem wcd_X3_isPaperRounds : Cond.code yX3_isPaperRounds cX3_isPaperRounds 1 (some .boolean) ∈ th_T := th_in3 168 (by decide +kernel) rfl
theorem wcd_X3_isPath : Cond.code yX3_isPath cX3_isPath 1 (some .boolean) ∈ th_T := th_in2 14 (by decide +kernel) rfl
theorem wcd_X3_isWeight : Cond.code yX3_isWeight cX3_isWeight 1 (some .boolean) ∈ th_T := th_in2 17 (by decide +kernel) rfl
theorem wcd_X3_newSheet : Cond.code yX3_newSheet cX3_newSheet 1 (some (.object "FairRates$Plan")) ∈ th_T := th_in3 186 (by decide +kernel) rfl
theorem wcd_X3_otherLevels : Cond.code yX3_otherLevels cX3_otherLevels 3 (some .int) ∈ th_T := th_in3 214 (by decide +kernel) rfl
theorem wcd_X3_refuse : Cond.code yX3_refuse cX3_refuse 2 (some .int) ∈ th_T := th_in1 233 (by decide +kernel) rfl
theorem wcd_X3_someoneComes : Cond.code yX3_someoneComes cX3_someoneComes 10 (some .int) ∈ th_T := th_in4 11 (by decide +kernel) rfl
theorem wcd_X3_someoneGoes : Cond.code yX3_someoneGoes cX3_someoneGoes 6 (some .int) ∈ th_T := th_in4 15 (by decide +kernel) rfl
theorem wcd_X3_whyNoSuchFlow : Cond.code yX3_whyNoSuchFlow cX3_whyNoSuchFlow 6 (some .int) ∈ th_T := th_in2 11 (by decide +kernel) rfl
theorem wcd_X3_whyNotCome : Cond.code yX3_whyNotCome cX3_whyNotCome 8 (some .int) ∈ th_T := th_in2 8 (by decide +kernel) rfl
theorem wcd_X3_whyNotRoute : Cond.code yX3_whyNotRoute cX3_whyNotRoute 4 (some .int) ∈ th_T := th_in2 109 (by decide +kernel) rfl
theorem wcd_X3_widen : Cond.code yX3_widen cX3_widen 4 none ∈ th_T := th_in3 227 (by decide +kernel) rfl
theorem wcd_X4_advertises : Cond.code yX4_advertises cX4_advertises 5 (some .int) ∈ th_T := th_in5 94 (by decide +kernel) rfl
theorem wcd_X4_allRates : Cond.code yX4_allRates cX4_allRates 3 (some .int) ∈ th_T := th_in5 197 (by decide +kernel) rfl
theorem wcd_X4_areLinks : Cond.code yX4_areLinks cX4_areLinks 1 (some .boolean) ∈ th_T := th_in5 2 (by decide +kernel) rfl
theorem wcd_X4_at : Cond.code yX4_at cX4_at 1 (some .int) ∈ th_T := th_in4 231 (by decide +kernel) rfl
theorem wcd_X4_backTo : Cond.code yX4_backTo cX4_backTo 4 (some .int) ∈ th_T := th_in5 111 (by decide +kernel) rfl
theorem wcd_X4_bookedOf : Cond.code yX4_bookedOf cX4_bookedOf 4 (some .int) ∈ th_T := th_in6 14 (by decide +kernel) rfl
theorem wcd_X4_bound : Cond.code yX4_bound cX4_bound 4 (some .int) ∈ th_T := th_in4 224 (by decide +kernel) rfl
theorem wcd_X4_comesByChance : Cond.code yX4_comesByChance cX4_comesByChance 5 none ∈ th_T := th_in6 112 (by decide +kernel) rfl
theorem wcd_X4_common : Cond.code yX4_common cX4_common 10 (some .long) ∈ th_T := th_in5 230 (by decide +kernel) rfl
theorem wcd_X4_copy : Cond.code yX4_copy cX4_copy 5 none ∈ th_T := th_in4 203 (by decide +kernel) rfl
theorem wcd_X4_draw : Cond.code yX4_draw cX4_draw 1 (some .int) ∈ th_T := th_in6 105 (by decide +kernel) rfl
theorem wcd_X4_elsewhere : Cond.code yX4_elsewhere cX4_elsewhere 3 (some .int) ∈ th_T := th_in5 103 (by decide +kernel) rfl
theorem wcd_X4_endThought : Cond.code yX4_endThought cX4_endThought 1 none ∈ th_T := th_in6 34 (by decide +kernel) rfl
theorem wcd_X4_fairRate : Cond.code yX4_fairRate cX4_fairRate 2 (some .int) ∈ th_T := th_in5 177 (by decide +kernel) rfl
theorem wcd_X4_fix : Cond.code yX4_fix cX4_fix 5 (some .int) ∈ th_T := th_in5 173 (by decide +kernel) rfl
theorem wcd_X4_flowMany : Cond.code yX4_flowMany cX4_flowMany 3 (some .int) ∈ th_T := th_in5 41 (by decide +kernel) rfl
theorem wcd_X4_forth : Cond.code yX4_forth cX4_forth 4 (some .int) ∈ th_T := th_in5 90 (by decide +kernel) rfl
theorem wcd_X4_freeNumber : Cond.code yX4_freeNumber cX4_freeNumber 2 (some .int) ∈ th_T := th_in5 7 (by decide +kernel) rfl
theorem wcd_X4_goesByChance : Cond.code yX4_goesByChance cX4_goesByChance 4 none ∈ th_T := th_in6 116 (by decide +kernel) rfl
theorem wcd_X4_goesOver : Cond.code yX4_goesOver cX4_goesOver 3 (some .boolean) ∈ th_T := th_in4 228 (by decide +kernel) rfl
theorem wcd_X4_hasFlows : Cond.code yX4_hasFlows cX4_hasFlows 4 (some .boolean) ∈ th_T := th_in5 218 (by decide +kernel) rfl
theorem wcd_X4_heldMany : Cond.code yX4_heldMany cX4_heldMany 3 (some .int) ∈ th_T := th_in5 58 (by decide +kernel) rfl
theorem wcd_X4_in : Cond.code yX4_in cX4_in 6 (some .boolean) ∈ th_T := th_in4 200 (by decide +kernel) rfl
theorem wcd_X4_isBound : Cond.code yX4_isBound cX4_isBound 3 (some .boolean) ∈ th_T := th_in5 50 (by decide +kernel) rfl
theorem wcd_X4_isFlow : Cond.code yX4_isFlow cX4_isFlow 2 (some .boolean) ∈ th_T := th_in5 36 (by decide +kernel) rfl
theorem wcd_X4_isLink : Cond.code yX4_isLink cX4_isLink 1 (some .boolean) ∈ th_T := th_in4 214 (by decide +kernel) rfl
theorem wcd_X4_isOpen : Cond.code yX4_isOpen cX4_isOpen 4 (some .boolean) ∈ th_T := th_in5 161 (by decide +kernel) rfl
theorem wcd_X4_isThere : Cond.code yX4_isThere cX4_isThere 2 (some .boolean) ∈ th_T := th_in5 144 (by decide +kernel) rfl
theorem wcd_X4_knowsNothing : Cond.code yX4_knowsNothing cX4_knowsNothing 3 none ∈ th_T := th_in5 28 (by decide +kernel) rfl
theorem wcd_X4_lay : Cond.code yX4_lay cX4_lay 9 none ∈ th_T := th_in5 24 (by decide +kernel) rfl
theorem wcd_X4_layFair : Cond.code yX4_layFair cX4_layFair 4 none ∈ th_T := th_in5 157 (by decide +kernel) rfl
theorem wcd_X4_leastLevel : Cond.code yX4_leastLevel cX4_leastLevel 1 (some .int) ∈ th_T := th_in5 193 (by decide +kernel) rfl
theorem wcd_X4_leftOf : Cond.code yX4_leftOf cX4_leftOf 2 (some .int) ∈ th_T := th_in5 222 (by decide +kernel) rfl
theorem wcd_X4_lesser : Cond.code yX4_lesser cX4_lesser 2 (some .int) ∈ th_T := th_in5 15 (by decide +kernel) rfl
theorem wcd_X4_linksWithFlows : Cond.code yX4_linksWithFlows cX4_linksWithFlows 3 (some .int) ∈ th_T := th_in6 124 (by decide +kernel) rfl
theorem wcd_X4_marksAll : Cond.code yX4_marksAll cX4_marksAll 5 (some .int) ∈ th_T := th_in6 128 (by decide +kernel) rfl
theorem wcd_X4_namedBy : Cond.code yX4_namedBy cX4_namedBy 4 (some .int) ∈ th_T := th_in5 20 (by decide +kernel) rfl
theorem wcd_X4_nextLink : Cond.code yX4_nextLink cX4_nextLink 5 (some .int) ∈ th_T := th_in5 119 (by decide +kernel) rfl
theorem wcd_X4_ones : Cond.code yX4_ones cX4_ones 3 (some .int) ∈ th_T := th_in5 69 (by decide +kernel) rfl
theorem wcd_X4_othersBy : Cond.code yX4_othersBy cX4_othersBy 6 (some .int) ∈ th_T := th_in6 80 (by decide +kernel) rfl
theorem wcd_X4_overbooked : Cond.code yX4_overbooked cX4_overbooked 3 (some .int) ∈ th_T := th_in6 22 (by decide +kernel) rfl
theorem wcd_X4_own : Cond.code yX4_own cX4_own 2 (some .int) ∈ th_T := th_in5 86 (by decide +kernel) rfl
theorem wcd_X4_passLevel : Cond.code yX4_passLevel cX4_passLevel 8 (some .int) ∈ th_T := th_in6 2 (by decide +kernel) rfl
theorem wcd_X4_rate : Cond.code yX4_rate cX4_rate 4 (some .int) ∈ th_T := th_in5 107 (by decide +kernel) rfl
theorem wcd_X4_ratesBy : Cond.code yX4_ratesBy cX4_ratesBy 6 (some .long) ∈ th_T := th_in5 99 (by decide +kernel) rfl
theorem wcd_X4_refuse : Cond.code yX4_refuse cX4_refuse 2 (some .int) ∈ th_T := th_in4 220 (by decide +kernel) rfl
theorem wcd_X4_reroute : Cond.code yX4_reroute cX4_reroute 6 (some .int) ∈ th_T := th_in5 66 (by decide +kernel) rfl
theorem wcd_X4_roomOf : Cond.code yX4_roomOf cX4_roomOf 4 (some .int) ∈ th_T := th_in5 11 (by decide +kernel) rfl
theorem wcd_X4_round : Cond.code yX4_round cX4_round 3 (some .boolean) ∈ th_T := th_in5 128 (by decide +kernel) rfl
theorem wcd_X4_sends : Cond.code yX4_sends cX4_sends 4 none ∈ th_T := th_in5 82 (by decide +kernel) rfl
theorem wcd_X4_takeLevels : Cond.code yX4_takeLevels cX4_takeLevels 2 none ∈ th_T := th_in6 76 (by decide +kernel) rfl
theorem wcd_X4_think : Cond.code yX4_think cX4_think 1 none ∈ th_T := th_in6 30 (by decide +kernel) rfl
theorem wcd_X4_tideOf : Cond.code yX4_tideOf cX4_tideOf 5 (some .int) ∈ th_T := th_in5 165 (by decide +kernel) rfl
theorem wcd_X4_toBeLost : Cond.code yX4_toBeLost cX4_toBeLost 3 (some .int) ∈ th_T := th_in6 136 (by decide +kernel) rfl
theorem wcd_X4_underWay : Cond.code yX4_underWay cX4_underWay 3 (some .int) ∈ th_T := th_in6 132 (by decide +kernel) rfl
theorem wcd_X4_usedOf : Cond.code yX4_usedOf cX4_usedOf 4 (some .int) ∈ th_T := th_in5 185 (by decide +kernel) rfl
theorem wcd_X4_waterBy : Cond.code yX4_waterBy cX4_waterBy 6 (some .long) ∈ th_T := th_in5 169 (by decide +kernel) rfl
theorem wcd_X4_whyNot : Cond.code yX4_whyNot cX4_whyNot 5 (some .int) ∈ th_T := th_in4 239 (by decide +kernel) rfl
theorem wcl_X3_239 : Cond.constantLong RX3 239 (-1) ∈ th_T := th_in3 99 (by decide +kernel) rfl
theorem wcl_X4_116 : Cond.constantLong RX4 116 999999 ∈ th_T := th_in5 16 (by decide +kernel) rfl
theorem wcl_X4_131 : Cond.constantLong RX4 131 2 ∈ th_T := th_in5 46 (by decide +kernel) rfl
theorem wcl_X4_146 : Cond.constantLong RX4 146 99 ∈ th_T := th_in5 74 (by decide +kernel) rfl
theorem wcl_X4_179 : Cond.constantLong RX4 179 30 ∈ th_T := th_in5 124 (by decide +kernel) rfl
theorem wcl_X4_205 : Cond.constantLong RX4 205 4 ∈ th_T := th_in5 145 (by decide +kernel) rfl
theorem wcl_X4_219 : Cond.constantLong RX4 219 3 ∈ th_T := th_in5 202 (by decide +kernel) rfl
theorem wcl_X4_227 : Cond.constantLong RX4 227 (-1) ∈ th_T := th_in5 227 (by decide +kernel) rfl
theorem wcl_X4_251 : Cond.constantLong RX4 251 60 ∈ th_T := th_in6 39 (by decide +kernel) rfl
theorem wcl_X4_264 : Cond.constantLong RX4 264 1103 ∈ th_T := th_in6 106 (by decide +kernel) rfl
theorem wcl_X4_266 : Cond.constantLong RX4 266 12345 ∈ th_T := th_in6 107 (by decide +kernel) rfl
theorem wcl_X4_268 : Cond.constantLong RX4 268 1000003 ∈ th_T := th_in6 108 (by decide +kernel) rfl
theorem wcl_X4_273 : Cond.constantLong RX4 273 40 ∈ th_T := th_in6 101 (by decide +kernel) rfl
theorem wcl_X4_293 : Cond.constantLong RX4 293 6 ∈ th_T := th_in6 137 (by decide +kernel) rfl
theorem wcl_X4_295 : Cond.constantLong RX4 295 10 ∈ th_T := th_in6 138 (by decide +kernel) rfl
theorem wcl_X4_67 : Cond.constantLong RX4 67 9 ∈ th_T := th_in4 215 (by decide +kernel) rfl
theorem wcl_X4_69 : Cond.constantLong RX4 69 19 ∈ th_T := th_in5 37 (by decide +kernel) rfl
theorem wcl_X4_86 : Cond.constantLong RX4 86 1000000 ∈ th_T := th_in4 216 (by decide +kernel) rfl
theorem wcl_X4_91 : Cond.constantLong RX4 91 1023 ∈ th_T := th_in5 3 (by decide +kernel) rfl
theorem wco_J6_264 : Cond.constant RJ6 264 65536 ∈ th_T := th_in3 40 (by decide +kernel) rfl
theorem wco_J6_265 : Cond.constant RJ6 265 1431655765 ∈ th_T := th_in2 76 (by decide +kernel) rfl
theorem wco_J6_266 : Cond.constant RJ6 266 858993459 ∈ th_T := th_in2 77 (by decide +kernel) rfl
theorem wco_J6_267 : Cond.constant RJ6 267 252645135 ∈ th_T := th_in2 78 (by decide +kernel) rfl
theorem wco_X0_75 : Cond.constant RX0 75 1000000 ∈ th_T := th_in2 168 (by decide +kernel) rfl
theorem wco_X1_50 : Cond.constant RX1 50 1000000 ∈ th_T := th_in1 79 (by decide +kernel) rfl
theorem wco_X2_46 : Cond.constant RX2 46 1000000 ∈ th_T := th_in3 16 (by decide +kernel) rfl
theorem wco_X3_277 : Cond.constant RX3 277 1000000 ∈ th_T := th_in1 229 (by decide +kernel) rfl
theorem wco_X3_300 : Cond.constant RX3 300 (-2147483648) ∈ th_T := th_in3 198 (by decide +kernel) rfl
theorem wco_X3_348 : Cond.constant RX3 348 1000003 ∈ th_T := th_in4 7 (by decide +kernel) rfl
theorem wco_X4_154 : Cond.constant RX4 154 1000001 ∈ th_T := th_in5 95 (by decide +kernel) rfl
theorem wco_X4_253 : Cond.constant RX4 253 (-2147483648) ∈ th_T := th_in6 60 (by decide +kernel) rfl
theorem wco_X4_93 : Cond.constant RX4 93 1000000 ∈ th_T := th_in5 12 (by decide +kernel) rfl
theorem wfl_X0_15 : Cond.fieldLink RX0 15 (TX0 1).1 (TX0 1).2.1 (TX0 1).2.2.1 ∈ th_T := th_in1 38 (by decide +kernel) rfl
theorem wfl_X0_18 : Cond.fieldLink RX0 18 (TX0 2).1 (TX0 2).2.1 (TX0 2).2.2.1 ∈ th_T := th_in1 42 (by decide +kernel) rfl
theorem wfl_X0_21 : Cond.fieldLink RX0 21 (TX0 3).1 (TX0 3).2.1 (TX0 3).2.2.1 ∈ th_T := th_in1 44 (by decide +kernel) rfl
theorem wfl_X0_24 : Cond.fieldLink RX0 24 (TX0 4).1 (TX0 4).2.1 (TX0 4).2.2.1 ∈ th_T := th_in1 47 (by decide +kernel) rfl
theorem wfl_X0_27 : Cond.fieldLink RX0 27 (TX0 5).1 (TX0 5).2.1 (TX0 5).2.2.1 ∈ th_T := th_in1 49 (by decide +kernel) rfl
theorem wfl_X0_30 : Cond.fieldLink RX0 30 (TX0 6).1 (TX0 6).2.1 (TX0 6).2.2.1 ∈ th_T := th_in1 51 (by decide +kernel) rfl
theorem wfl_X0_39 : Cond.fieldLink RX0 39 (TX0 7).1 (TX0 7).2.1 (TX0 7).2.2.1 ∈ th_T := th_in1 54 (by decide +kernel) rfl
theorem wfl_X0_43 : Cond.fieldLink RX0 43 (TX0 8).1 (TX0 8).2.1 (TX0 8).2.2.1 ∈ th_T := th_in1 57 (by decide +kernel) rfl
theorem wfl_X0_9 : Cond.fieldLink RX0 9 (TX0 0).1 (TX0 0).2.1 (TX0 0).2.2.1 ∈ th_T := th_in1 34 (by decide +kernel) rfl
theorem wfl_X1_107 : Cond.fieldLink RX1 107 (TX0 8).1 (TX0 8).2.1 (TX0 8).2.2.1 ∈ th_T := th_in1 58 (by decide +kernel) rfl
theorem wfl_X1_12 : Cond.fieldLink RX1 12 (TX1 0).1 (TX1 0).2.1 (TX1 0).2.2.1 ∈ th_T := th_in1 83 (by decide +kernel) rfl
theorem wfl_X1_131 : Cond.fieldLink RX1 131 (TX0 1).1 (TX0 1).2.1 (TX0 1).2.2.1 ∈ th_T := th_in1 40 (by decide +kernel) rfl
theorem wfl_X1_134 : Cond.fieldLink RX1 134 (TX1 15).1 (TX1 15).2.1 (TX1 15).2.2.1 ∈ th_T := th_in1 107 (by decide +kernel) rfl
theorem wfl_X1_18 : Cond.fieldLink RX1 18 (TX1 1).1 (TX1 1).2.1 (TX1 1).2.2.1 ∈ th_T := th_in1 85 (by decide +kernel) rfl
theorem wfl_X1_181 : Cond.fieldLink RX1 181 (TX0 0).1 (TX0 0).2.1 (TX0 0).2.2.1 ∈ th_T := th_in1 37 (by decide +kernel) rfl
theorem wfl_X1_22 : Cond.fieldLink RX1 22 (TX1 2).1 (TX1 2).2.1 (TX1 2).2.2.1 ∈ th_T := th_in1 87 (by decide +kernel) rfl
theorem wfl_X1_25 : Cond.fieldLink RX1 25 (TX1 3).1 (TX1 3).2.1 (TX1 3).2.2.1 ∈ th_T := th_in1 89 (by decide +kernel) rfl
theorem wfl_X1_28 : Cond.fieldLink RX1 28 (TX1 4).1 (TX1 4).2.1 (TX1 4).2.2.1 ∈ th_T := th_in1 91 (by decide +kernel) rfl
theorem wfl_X1_31 : Cond.fieldLink RX1 31 (TX1 5).1 (TX1 5).2.1 (TX1 5).2.2.1 ∈ th_T := th_in1 93 (by decide +kernel) rfl
theorem wfl_X1_34 : Cond.fieldLink RX1 34 (TX1 6).1 (TX1 6).2.1 (TX1 6).2.2.1 ∈ th_T := th_in1 94 (by decide +kernel) rfl
theorem wfl_X1_37 : Cond.fieldLink RX1 37 (TX1 7).1 (TX1 7).2.1 (TX1 7).2.2.1 ∈ th_T := th_in1 95 (by decide +kernel) rfl
theorem wfl_X1_40 : Cond.fieldLink RX1 40 (TX1 12).1 (TX1 12).2.1 (TX1 12).2.2.1 ∈ th_T := th_in1 104 (by decide +kernel) rfl
theorem wfl_X1_43 : Cond.fieldLink RX1 43 (TX1 13).1 (TX1 13).2.1 (TX1 13).2.2.1 ∈ th_T := th_in1 105 (by decide +kernel) rfl
theorem wfl_X1_47 : Cond.fieldLink RX1 47 (TX1 14).1 (TX1 14).2.1 (TX1 14).2.2.1 ∈ th_T := th_in1 106 (by decide +kernel) rfl
theorem wfl_X1_67 : Cond.fieldLink RX1 67 (TX1 8).1 (TX1 8).2.1 (TX1 8).2.2.1 ∈ th_T := th_in1 96 (by decide +kernel) rfl
theorem wfl_X1_70 : Cond.fieldLink RX1 70 (TX1 9).1 (TX1 9).2.1 (TX1 9).2.2.1 ∈ th_T := th_in1 98 (by decide +kernel) rfl
theorem wfl_X1_73 : Cond.fieldLink RX1 73 (TX1 10).1 (TX1 10).2.1 (TX1 10).2.2.1 ∈ th_T := th_in1 100 (by decide +kernel) rfl
theorem wfl_X1_76 : Cond.fieldLink RX1 76 (TX1 11).1 (TX1 11).2.1 (TX1 11).2.2.1 ∈ th_T := th_in1 102 (by decide +kernel) rfl
theorem wfl_X2_105 : Cond.fieldLink RX2 105 (TX0 0).1 (TX0 0).2.1 (TX0 0).2.2.1 ∈ th_T := th_in1 36 (by decide +kernel) rfl
theorem wfl_X2_15 : Cond.fieldLink RX2 15 (TX2 2).1 (TX2 2).2.1 (TX2 2).2.2.1 ∈ th_T := th_in1 150 (by decide +kernel) rfl
theorem wfl_X2_18 : Cond.fieldLink RX2 18 (TX2 3).1 (TX2 3).2.1 (TX2 3).2.2.1 ∈ th_T := th_in1 152 (by decide +kernel) rfl
theorem wfl_X2_21 : Cond.fieldLink RX2 21 (TX2 4).1 (TX2 4).2.1 (TX2 4).2.2.1 ∈ th_T := th_in1 154 (by decide +kernel) rfl
theorem wfl_X2_24 : Cond.fieldLink RX2 24 (TX2 5).1 (TX2 5).2.1 (TX2 5).2.2.1 ∈ th_T := th_in1 156 (by decide +kernel) rfl
theorem wfl_X2_27 : Cond.fieldLink RX2 27 (TX2 6).1 (TX2 6).2.1 (TX2 6).2.2.1 ∈ th_T := th_in1 158 (by decide +kernel) rfl
theorem wfl_X2_30 : Cond.fieldLink RX2 30 (TX2 7).1 (TX2 7).2.1 (TX2 7).2.2.1 ∈ th_T := th_in1 160 (by decide +kernel) rfl
theorem wfl_X2_33 : Cond.fieldLink RX2 33 (TX2 9).1 (TX2 9).2.1 (TX2 9).2.2.1 ∈ th_T := th_in1 163 (by decide +kernel) rfl
theorem wfl_X2_37 : Cond.fieldLink RX2 37 (TX2 0).1 (TX2 0).2.1 (TX2 0).2.2.1 ∈ th_T := th_in1 147 (by decide +kernel) rfl
theorem wfl_X2_41 : Cond.fieldLink RX2 41 (TX0 8).1 (TX0 8).2.1 (TX0 8).2.2.1 ∈ th_T := th_in1 56 (by decide +kernel) rfl
theorem wfl_X2_53 : Cond.fieldLink RX2 53 (TX2 8).1 (TX2 8).2.1 (TX2 8).2.2.1 ∈ th_T := th_in1 161 (by decide +kernel) rfl
theorem wfl_X2_56 : Cond.fieldLink RX2 56 (TX0 7).1 (TX0 7).2.1 (TX0 7).2.2.1 ∈ th_T := th_in1 53 (by decide +kernel) rfl
theorem wfl_X2_74 : Cond.fieldLink RX2 74 (TX0 1).1 (TX0 1).2.1 (TX0 1).2.2.1 ∈ th_T := th_in1 39 (by decide +kernel) rfl
theorem wfl_X2_9 : Cond.fieldLink RX2 9 (TX2 1).1 (TX2 1).2.1 (TX2 1).2.2.1 ∈ th_T := th_in1 148 (by decide +kernel) rfl
theorem wfl_X2_90 : Cond.fieldLink RX2 90 (TX0 3).1 (TX0 3).2.1 (TX0 3).2.2.1 ∈ th_T := th_in1 45 (by decide +kernel) rfl
theorem wfl_X3_100 : Cond.fieldLink RX3 100 (TX0 6).1 (TX0 6).2.1 (TX0 6).2.2.1 ∈ th_T := th_in1 52 (by decide +kernel) rfl
theorem wfl_X3_103 : Cond.fieldLink RX3 103 (TX0 5).1 (TX0 5).2.1 (TX0 5).2.2.1 ∈ th_T := th_in1 50 (by decide +kernel) rfl
theorem wfl_X3_110 : Cond.fieldLink RX3 110 (TX0 3).1 (TX0 3).2.1 (TX0 3).2.2.1 ∈ th_T := th_in1 46 (by decide +kernel) rfl
theorem wfl_X3_12 : Cond.fieldLink RX3 12 (TX3 0).1 (TX3 0).2.1 (TX3 0).2.2.1 ∈ th_T := th_in1 185 (by decide +kernel) rfl
theorem wfl_X3_123 : Cond.fieldLink RX3 123 (TX1 8).1 (TX1 8).2.1 (TX1 8).2.2.1 ∈ th_T := th_in1 97 (by decide +kernel) rfl
theorem wfl_X3_132 : Cond.fieldLink RX3 132 (TX1 4).1 (TX1 4).2.1 (TX1 4).2.2.1 ∈ th_T := th_in1 92 (by decide +kernel) rfl
theorem wfl_X3_141 : Cond.fieldLink RX3 141 (TX1 3).1 (TX1 3).2.1 (TX1 3).2.2.1 ∈ th_T := th_in1 90 (by decide +kernel) rfl
theorem wfl_X3_155 : Cond.fieldLink RX3 155 (TX3 7).1 (TX3 7).2.1 (TX3 7).2.2.1 ∈ th_T := th_in1 192 (by decide +kernel) rfl
theorem wfl_X3_159 : Cond.fieldLink RX3 159 (TX3 8).1 (TX3 8).2.1 (TX3 8).2.2.1 ∈ th_T := th_in1 193 (by decide +kernel) rfl
theorem wfl_X3_16 : Cond.fieldLink RX3 16 (TX1 0).1 (TX1 0).2.1 (TX1 0).2.2.1 ∈ th_T := th_in1 84 (by decide +kernel) rfl
theorem wfl_X3_162 : Cond.fieldLink RX3 162 (TX0 1).1 (TX0 1).2.1 (TX0 1).2.2.1 ∈ th_T := th_in1 41 (by decide +kernel) rfl
theorem wfl_X3_172 : Cond.fieldLink RX3 172 (TX0 2).1 (TX0 2).2.1 (TX0 2).2.2.1 ∈ th_T := th_in1 43 (by decide +kernel) rfl
theorem wfl_X3_175 : Cond.fieldLink RX3 175 (TX0 4).1 (TX0 4).2.1 (TX0 4).2.2.1 ∈ th_T := th_in1 48 (by decide +kernel) rfl
theorem wfl_X3_193 : Cond.fieldLink RX3 193 (TX2 1).1 (TX2 1).2.1 (TX2 1).2.2.1 ∈ th_T := th_in1 149 (by decide +kernel) rfl
theorem wfl_X3_196 : Cond.fieldLink RX3 196 (TX2 2).1 (TX2 2).2.1 (TX2 2).2.2.1 ∈ th_T := th_in1 151 (by decide +kernel) rfl
theorem wfl_X3_199 : Cond.fieldLink RX3 199 (TX2 3).1 (TX2 3).2.1 (TX2 3).2.2.1 ∈ th_T := th_in1 153 (by decide +kernel) rfl
theorem wfl_X3_20 : Cond.fieldLink RX3 20 (TX3 1).1 (TX3 1).2.1 (TX3 1).2.2.1 ∈ th_T := th_in1 186 (by decide +kernel) rfl
theorem wfl_X3_211 : Cond.fieldLink RX3 211 (TX2 8).1 (TX2 8).2.1 (TX2 8).2.2.1 ∈ th_T := th_in1 162 (by decide +kernel) rfl
theorem wfl_X3_221 : Cond.fieldLink RX3 221 (TX2 4).1 (TX2 4).2.1 (TX2 4).2.2.1 ∈ th_T := th_in1 155 (by decide +kernel) rfl
theorem wfl_X3_224 : Cond.fieldLink RX3 224 (TX2 5).1 (TX2 5).2.1 (TX2 5).2.2.1 ∈ th_T := th_in1 157 (by decide +kernel) rfl
theorem wfl_X3_227 : Cond.fieldLink RX3 227 (TX2 6).1 (TX2 6).2.1 (TX2 6).2.2.1 ∈ th_T := th_in1 159 (by decide +kernel) rfl
theorem wfl_X3_255 : Cond.fieldLink RX3 255 (TX1 1).1 (TX1 1).2.1 (TX1 1).2.2.1 ∈ th_T := th_in1 86 (by decide +kernel) rfl
theorem wfl_X3_258 : Cond.fieldLink RX3 258 (TX1 2).1 (TX1 2).2.1 (TX1 2).2.2.1 ∈ th_T := th_in1 88 (by decide +kernel) rfl
theorem wfl_X3_26 : Cond.fieldLink RX3 26 (TX3 2).1 (TX3 2).2.1 (TX3 2).2.2.1 ∈ th_T := th_in1 187 (by decide +kernel) rfl
theorem wfl_X3_30 : Cond.fieldLink RX3 30 (TX3 3).1 (TX3 3).2.1 (TX3 3).2.2.1 ∈ th_T := th_in1 188 (by decide +kernel) rfl
theorem wfl_X3_322 : Cond.fieldLink RX3 322 (TX1 9).1 (TX1 9).2.1 (TX1 9).2.2.1 ∈ th_T := th_in1 99 (by decide +kernel) rfl
theorem wfl_X3_325 : Cond.fieldLink RX3 325 (TX1 10).1 (TX1 10).2.1 (TX1 10).2.2.1 ∈ th_T := th_in1 101 (by decide +kernel) rfl
theorem wfl_X3_33 : Cond.fieldLink RX3 33 (TX3 4).1 (TX3 4).2.1 (TX3 4).2.2.1 ∈ th_T := th_in1 189 (by decide +kernel) rfl
theorem wfl_X3_331 : Cond.fieldLink RX3 331 (TX1 11).1 (TX1 11).2.1 (TX1 11).2.2.1 ∈ th_T := th_in1 103 (by decide +kernel) rfl
theorem wfl_X3_36 : Cond.fieldLink RX3 36 (TX3 5).1 (TX3 5).2.1 (TX3 5).2.2.1 ∈ th_T := th_in1 190 (by decide +kernel) rfl
theorem wfl_X3_39 : Cond.fieldLink RX3 39 (TX3 6).1 (TX3 6).2.1 (TX3 6).2.2.1 ∈ th_T := th_in1 191 (by decide +kernel) rfl
theorem wfl_X3_42 : Cond.fieldLink RX3 42 (TX3 9).1 (TX3 9).2.1 (TX3 9).2.2.1 ∈ th_T := th_in1 194 (by decide +kernel) rfl
theorem wfl_X3_46 : Cond.fieldLink RX3 46 (TX3 10).1 (TX3 10).2.1 (TX3 10).2.2.1 ∈ th_T := th_in1 195 (by decide +kernel) rfl
theorem wfl_X3_60 : Cond.fieldLink RX3 60 (TX0 0).1 (TX0 0).2.1 (TX0 0).2.2.1 ∈ th_T := th_in1 35 (by decide +kernel) rfl
theorem wfl_X3_87 : Cond.fieldLink RX3 87 (TX0 7).1 (TX0 7).2.1 (TX0 7).2.2.1 ∈ th_T := th_in1 55 (by decide +kernel) rfl
theorem wfl_X4_15 : Cond.fieldLink RX4 15 (TX4 2).1 (TX4 2).2.1 (TX4 2).2.2.1 ∈ th_T := th_in4 136 (by decide +kernel) rfl
theorem wfl_X4_18 : Cond.fieldLink RX4 18 (TX4 3).1 (TX4 3).2.1 (TX4 3).2.2.1 ∈ th_T := th_in4 137 (by decide +kernel) rfl
theorem wfl_X4_187 : Cond.fieldLink RX4 187 (TX4 13).1 (TX4 13).2.1 (TX4 13).2.2.1 ∈ th_T := th_in4 147 (by decide +kernel) rfl
theorem wfl_X4_21 : Cond.fieldLink RX4 21 (TX4 4).1 (TX4 4).2.1 (TX4 4).2.2.1 ∈ th_T := th_in4 138 (by decide +kernel) rfl
theorem wfl_X4_233 : Cond.fieldLink RX4 233 (TX4 15).1 (TX4 15).2.1 (TX4 15).2.2.1 ∈ th_T := th_in4 149 (by decide +kernel) rfl
theorem wfl_X4_25 : Cond.fieldLink RX4 25 (TX4 5).1 (TX4 5).2.1 (TX4 5).2.2.1 ∈ th_T := th_in4 139 (by decide +kernel) rfl
theorem wfl_X4_260 : Cond.fieldLink RX4 260 (TX4 17).1 (TX4 17).2.1 (TX4 17).2.2.1 ∈ th_T := th_in4 151 (by decide +kernel) rfl
theorem wfl_X4_28 : Cond.fieldLink RX4 28 (TX4 6).1 (TX4 6).2.1 (TX4 6).2.2.1 ∈ th_T := th_in4 140 (by decide +kernel) rfl
theorem wfl_X4_31 : Cond.fieldLink RX4 31 (TX4 7).1 (TX4 7).2.1 (TX4 7).2.2.1 ∈ th_T := th_in4 141 (by decide +kernel) rfl
theorem wfl_X4_34 : Cond.fieldLink RX4 34 (TX4 8).1 (TX4 8).2.1 (TX4 8).2.2.1 ∈ th_T := th_in4 142 (by decide +kernel) rfl
theorem wfl_X4_37 : Cond.fieldLink RX4 37 (TX4 9).1 (TX4 9).2.1 (TX4 9).2.2.1 ∈ th_T := th_in4 143 (by decide +kernel) rfl
theorem wfl_X4_40 : Cond.fieldLink RX4 40 (TX4 10).1 (TX4 10).2.1 (TX4 10).2.2.1 ∈ th_T := th_in4 144 (by decide +kernel) rfl
theorem wfl_X4_43 : Cond.fieldLink RX4 43 (TX4 11).1 (TX4 11).2.1 (TX4 11).2.2.1 ∈ th_T := th_in4 145 (by decide +kernel) rfl
theorem wfl_X4_46 : Cond.fieldLink RX4 46 (TX4 12).1 (TX4 12).2.1 (TX4 12).2.2.1 ∈ th_T := th_in4 146 (by decide +kernel) rfl
theorem wfl_X4_49 : Cond.fieldLink RX4 49 (TX4 14).1 (TX4 14).2.1 (TX4 14).2.2.1 ∈ th_T := th_in4 148 (by decide +kernel) rfl
theorem wfl_X4_52 : Cond.fieldLink RX4 52 (TX4 16).1 (TX4 16).2.1 (TX4 16).2.2.1 ∈ th_T := th_in4 150 (by decide +kernel) rfl
theorem wfl_X4_55 : Cond.fieldLink RX4 55 (TX4 0).1 (TX4 0).2.1 (TX4 0).2.2.1 ∈ th_T := th_in4 134 (by decide +kernel) rfl
theorem wfl_X4_9 : Cond.fieldLink RX4 9 (TX4 1).1 (TX4 1).2.1 (TX4 1).2.2.1 ∈ th_T := th_in4 135 (by decide +kernel) rfl
theorem wim_X0_add : Cond.instanceMethod yX0_add ∈ th_T := th_in2 40 (by decide +kernel) rfl
theorem wim_X0_boundOf : Cond.instanceMethod yX0_boundOf ∈ th_T := th_in1 235 (by decide +kernel) rfl
theorem wim_X0_byWeight : Cond.instanceMethod yX0_byWeight ∈ th_T := th_in2 138 (by decide +kernel) rfl
theorem wim_X0_copy : Cond.instanceMethod yX0_copy ∈ th_T := th_in2 229 (by decide +kernel) rfl
theorem wim_X0_flowNamed : Cond.instanceMethod yX0_flowNamed ∈ th_T := th_in2 32 (by decide +kernel) rfl
theorem wim_X0_freeNumber : Cond.instanceMethod yX0_freeNumber ∈ th_T := th_in2 19 (by decide +kernel) rfl
theorem wim_X0_goesOver : Cond.instanceMethod yX0_goesOver ∈ th_T := th_in2 49 (by decide +kernel) rfl
theorem wim_X0_greatestLevel : Cond.instanceMethod yX0_greatestLevel ∈ th_T := th_in2 165 (by decide +kernel) rfl
theorem wim_X0_has : Cond.instanceMethod yX0_has ∈ th_T := th_in2 23 (by decide +kernel) rfl
theorem wim_X0_hasRoom : Cond.instanceMethod yX0_hasRoom ∈ th_T := th_in2 27 (by decide +kernel) rfl
theorem wim_X0_linksInUse : Cond.instanceMethod yX0_linksInUse ∈ th_T := th_in4 21 (by decide +kernel) rfl
theorem wim_X0_ownOf : Cond.instanceMethod yX0_ownOf ∈ th_T := th_in2 133 (by decide +kernel) rfl
theorem wim_X0_partOf : Cond.instanceMethod yX0_partOf ∈ th_T := th_in2 87 (by decide +kernel) rfl
theorem wim_X0_rateBy : Cond.instanceMethod yX0_rateBy ∈ th_T := th_in2 170 (by decide +kernel) rfl
theorem wim_X0_remove : Cond.instanceMethod yX0_remove ∈ th_T := th_in2 62 (by decide +kernel) rfl
theorem wim_X0_setCapacity : Cond.instanceMethod yX0_setCapacity ∈ th_T := th_in1 239 (by decide +kernel) rfl
theorem wim_X0_setPart : Cond.instanceMethod yX0_setPart ∈ th_T := th_in2 91 (by decide +kernel) rfl
theorem wim_X0_setPath : Cond.instanceMethod yX0_setPath ∈ th_T := th_in2 45 (by decide +kernel) rfl
theorem wim_X1_allToLose : Cond.instanceMethod yX1_allToLose ∈ th_T := th_in4 34 (by decide +kernel) rfl
theorem wim_X1_arriveBack : Cond.instanceMethod yX1_arriveBack ∈ th_T := th_in2 183 (by decide +kernel) rfl
theorem wim_X1_arriveForth : Cond.instanceMethod yX1_arriveForth ∈ th_T := th_in2 143 (by decide +kernel) rfl
theorem wim_X1_bookedAt : Cond.instanceMethod yX1_bookedAt ∈ th_T := th_in3 138 (by decide +kernel) rfl
theorem wim_X1_copy : Cond.instanceMethod yX1_copy ∈ th_T := th_in2 225 (by decide +kernel) rfl
theorem wim_X1_elsewhere : Cond.instanceMethod yX1_elsewhere ∈ th_T := th_in2 158 (by decide +kernel) rfl
theorem wim_X1_findMarks : Cond.instanceMethod yX1_findMarks ∈ th_T := th_in3 117 (by decide +kernel) rfl
theorem wim_X1_forgetAll : Cond.instanceMethod yX1_forgetAll ∈ th_T := th_in2 217 (by decide +kernel) rfl
theorem wim_X1_forgetAt : Cond.instanceMethod yX1_forgetAt ∈ th_T := th_in2 71 (by decide +kernel) rfl
theorem wim_X1_forgetFlow : Cond.instanceMethod yX1_forgetFlow ∈ th_T := th_in2 67 (by decide +kernel) rfl
theorem wim_X1_goOn : Cond.instanceMethod yX1_goOn ∈ th_T := th_in2 125 (by decide +kernel) rfl
theorem wim_X1_goRound : Cond.instanceMethod yX1_goRound ∈ th_T := th_in2 206 (by decide +kernel) rfl
theorem wim_X1_highestBelow : Cond.instanceMethod yX1_highestBelow ∈ th_T := th_in2 191 (by decide +kernel) rfl
theorem wim_X1_isHeld : Cond.instanceMethod yX1_isHeld ∈ th_T := th_in2 99 (by decide +kernel) rfl
theorem wim_X1_isLostAt : Cond.instanceMethod yX1_isLostAt ∈ th_T := th_in2 151 (by decide +kernel) rfl
theorem wim_X1_isMarked : Cond.instanceMethod yX1_isMarked ∈ th_T := th_in3 130 (by decide +kernel) rfl
theorem wim_X1_letGo : Cond.instanceMethod yX1_letGo ∈ th_T := th_in2 58 (by decide +kernel) rfl
theorem wim_X1_lowestFrom : Cond.instanceMethod yX1_lowestFrom ∈ th_T := th_in2 130 (by decide +kernel) rfl
theorem wim_X1_markBelow : Cond.instanceMethod yX1_markBelow ∈ th_T := th_in3 122 (by decide +kernel) rfl
theorem wim_X1_markCount : Cond.instanceMethod yX1_markCount ∈ th_T := th_in4 25 (by decide +kernel) rfl
theorem wim_X1_offerOf : Cond.instanceMethod yX1_offerOf ∈ th_T := th_in2 154 (by decide +kernel) rfl
theorem wim_X1_overbooked : Cond.instanceMethod yX1_overbooked ∈ th_T := th_in3 147 (by decide +kernel) rfl
theorem wim_X1_reroute : Cond.instanceMethod yX1_reroute ∈ th_T := th_in2 111 (by decide +kernel) rfl
theorem wim_X1_send : Cond.instanceMethod yX1_send ∈ th_T := th_in2 198 (by decide +kernel) rfl
theorem wim_X1_takeIn : Cond.instanceMethod yX1_takeIn ∈ th_T := th_in2 36 (by decide +kernel) rfl
theorem wim_X1_tell : Cond.instanceMethod yX1_tell ∈ th_T := th_in2 179 (by decide +kernel) rfl
theorem wim_X1_tellAhead : Cond.instanceMethod yX1_tellAhead ∈ th_T := th_in2 147 (by decide +kernel) rfl
theorem wim_X1_tellBehind : Cond.instanceMethod yX1_tellBehind ∈ th_T := th_in2 187 (by decide +kernel) rfl
theorem wim_X1_underWay : Cond.instanceMethod yX1_underWay ∈ th_T := th_in4 30 (by decide +kernel) rfl
theorem wim_X2_below : Cond.instanceMethod yX2_below ∈ th_T := th_in3 82 (by decide +kernel) rfl
theorem wim_X2_fix : Cond.instanceMethod yX2_fix ∈ th_T := th_in3 35 (by decide +kernel) rfl
theorem wim_X2_fixedBy : Cond.instanceMethod yX2_fixedBy ∈ th_T := th_in3 31 (by decide +kernel) rfl
theorem wim_X2_fullnessOf : Cond.instanceMethod yX2_fullnessOf ∈ th_T := th_in3 91 (by decide +kernel) rfl
theorem wim_X2_greatestLevel : Cond.instanceMethod yX2_greatestLevel ∈ th_T := th_in3 65 (by decide +kernel) rfl
theorem wim_X2_leastLevel : Cond.instanceMethod yX2_leastLevel ∈ th_T := th_in3 61 (by decide +kernel) rfl
theorem wim_X2_leftOf : Cond.instanceMethod yX2_leftOf ∈ th_T := th_in3 47 (by decide +kernel) rfl
theorem wim_X2_linksAt : Cond.instanceMethod yX2_linksAt ∈ th_T := th_in3 27 (by decide +kernel) rfl
theorem wim_X2_nextSurface : Cond.instanceMethod yX2_nextSurface ∈ th_T := th_in3 20 (by decide +kernel) rfl
theorem wim_X2_rankOf : Cond.instanceMethod yX2_rankOf ∈ th_T := th_in3 78 (by decide +kernel) rfl
theorem wim_X2_rateOf : Cond.instanceMethod yX2_rateOf ∈ th_T := th_in3 101 (by decide +kernel) rfl
theorem wim_X2_ratesOf : Cond.instanceMethod yX2_ratesOf ∈ th_T := th_in3 42 (by decide +kernel) rfl
theorem wim_X2_rise : Cond.instanceMethod yX2_rise ∈ th_T := th_in3 13 (by decide +kernel) rfl
theorem wim_X2_witnessedBy : Cond.instanceMethod yX2_witnessedBy ∈ th_T := th_in3 52 (by decide +kernel) rfl
theorem wim_X3_blow : Cond.instanceMethod yX3_blow ∈ th_T := th_in4 2 (by decide +kernel) rfl
theorem wim_X3_farFromFair : Cond.instanceMethod yX3_farFromFair ∈ th_T := th_in3 157 (by decide +kernel) rfl
theorem wim_X3_newSheet : Cond.instanceMethod yX3_newSheet ∈ th_T := th_in3 185 (by decide +kernel) rfl
theorem wim_X3_otherLevels : Cond.instanceMethod yX3_otherLevels ∈ th_T := th_in3 213 (by decide +kernel) rfl
theorem wim_X3_refuse : Cond.instanceMethod yX3_refuse ∈ th_T := th_in1 232 (by decide +kernel) rfl
theorem wim_X3_someoneComes : Cond.instanceMethod yX3_someoneComes ∈ th_T := th_in4 10 (by decide +kernel) rfl
theorem wim_X3_someoneGoes : Cond.instanceMethod yX3_someoneGoes ∈ th_T := th_in4 14 (by decide +kernel) rfl
theorem wim_X3_whyNotRoute : Cond.instanceMethod yX3_whyNotRoute ∈ th_T := th_in2 108 (by decide +kernel) rfl
theorem wim_X3_widen : Cond.instanceMethod yX3_widen ∈ th_T := th_in3 226 (by decide +kernel) rfl
theorem wim_X4_advertises : Cond.instanceMethod yX4_advertises ∈ th_T := th_in5 93 (by decide +kernel) rfl
theorem wim_X4_allRates : Cond.instanceMethod yX4_allRates ∈ th_T := th_in5 196 (by decide +kernel) rfl
theorem wim_X4_backTo : Cond.instanceMethod yX4_backTo ∈ th_T := th_in5 110 (by decide +kernel) rfl
theorem wim_X4_bookedOf : Cond.instanceMethod yX4_bookedOf ∈ th_T := th_in6 13 (by decide +kernel) rfl
theorem wim_X4_bound : Cond.instanceMethod yX4_bound ∈ th_T := th_in4 223 (by decide +kernel) rfl
theorem wim_X4_comesByChance : Cond.instanceMethod yX4_comesByChance ∈ th_T := th_in6 111 (by decide +kernel) rfl
theorem wim_X4_draw : Cond.instanceMethod yX4_draw ∈ th_T := th_in6 104 (by decide +kernel) rfl
theorem wim_X4_elsewhere : Cond.instanceMethod yX4_elsewhere ∈ th_T := th_in5 102 (by decide +kernel) rfl
theorem wim_X4_endThought : Cond.instanceMethod yX4_endThought ∈ th_T := th_in6 33 (by decide +kernel) rfl
theorem wim_X4_fairRate : Cond.instanceMethod yX4_fairRate ∈ th_T := th_in5 176 (by decide +kernel) rfl
theorem wim_X4_fix : Cond.instanceMethod yX4_fix ∈ th_T := th_in5 172 (by decide +kernel) rfl
theorem wim_X4_flowMany : Cond.instanceMethod yX4_flowMany ∈ th_T := th_in5 40 (by decide +kernel) rfl
theorem wim_X4_forth : Cond.instanceMethod yX4_forth ∈ th_T := th_in5 89 (by decide +kernel) rfl
theorem wim_X4_freeNumber : Cond.instanceMethod yX4_freeNumber ∈ th_T := th_in5 6 (by decide +kernel) rfl
theorem wim_X4_goesByChance : Cond.instanceMethod yX4_goesByChance ∈ th_T := th_in6 115 (by decide +kernel) rfl
theorem wim_X4_goesOver : Cond.instanceMethod yX4_goesOver ∈ th_T := th_in4 227 (by decide +kernel) rfl
theorem wim_X4_hasFlows : Cond.instanceMethod yX4_hasFlows ∈ th_T := th_in5 217 (by decide +kernel) rfl
theorem wim_X4_heldMany : Cond.instanceMethod yX4_heldMany ∈ th_T := th_in5 57 (by decide +kernel) rfl
theorem wim_X4_isBound : Cond.instanceMethod yX4_isBound ∈ th_T := th_in5 49 (by decide +kernel) rfl
theorem wim_X4_isFlow : Cond.instanceMethod yX4_isFlow ∈ th_T := th_in5 35 (by decide +kernel) rfl
theorem wim_X4_isOpen : Cond.instanceMethod yX4_isOpen ∈ th_T := th_in5 160 (by decide +kernel) rfl
theorem wim_X4_isThere : Cond.instanceMethod yX4_isThere ∈ th_T := th_in5 143 (by decide +kernel) rfl
theorem wim_X4_knowsNothing : Cond.instanceMethod yX4_knowsNothing ∈ th_T := th_in5 27 (by decide +kernel) rfl
theorem wim_X4_lay : Cond.instanceMethod yX4_lay ∈ th_T := th_in5 23 (by decide +kernel) rfl
theorem wim_X4_layFair : Cond.instanceMethod yX4_layFair ∈ th_T := th_in5 156 (by decide +kernel) rfl
theorem wim_X4_leastLevel : Cond.instanceMethod yX4_leastLevel ∈ th_T := th_in5 192 (by decide +kernel) rfl
theorem wim_X4_leftOf : Cond.instanceMethod yX4_leftOf ∈ th_T := th_in5 221 (by decide +kernel) rfl
theorem wim_X4_linksWithFlows : Cond.instanceMethod yX4_linksWithFlows ∈ th_T := th_in6 123 (by decide +kernel) rfl
theorem wim_X4_marksAll : Cond.instanceMethod yX4_marksAll ∈ th_T := th_in6 127 (by decide +kernel) rfl
theorem wim_X4_namedBy : Cond.instanceMethod yX4_namedBy ∈ th_T := th_in5 19 (by decide +kernel) rfl
theorem wim_X4_nextLink : Cond.instanceMethod yX4_nextLink ∈ th_T := th_in5 118 (by decide +kernel) rfl
theorem wim_X4_othersBy : Cond.instanceMethod yX4_othersBy ∈ th_T := th_in6 79 (by decide +kernel) rfl
theorem wim_X4_overbooked : Cond.instanceMethod yX4_overbooked ∈ th_T := th_in6 21 (by decide +kernel) rfl
theorem wim_X4_own : Cond.instanceMethod yX4_own ∈ th_T := th_in5 85 (by decide +kernel) rfl
theorem wim_X4_passLevel : Cond.instanceMethod yX4_passLevel ∈ th_T := th_in6 1 (by decide +kernel) rfl
theorem wim_X4_rate : Cond.instanceMethod yX4_rate ∈ th_T := th_in5 106 (by decide +kernel) rfl
theorem wim_X4_ratesBy : Cond.instanceMethod yX4_ratesBy ∈ th_T := th_in5 98 (by decide +kernel) rfl
theorem wim_X4_refuse : Cond.instanceMethod yX4_refuse ∈ th_T := th_in4 219 (by decide +kernel) rfl
theorem wim_X4_reroute : Cond.instanceMethod yX4_reroute ∈ th_T := th_in5 65 (by decide +kernel) rfl
theorem wim_X4_roomOf : Cond.instanceMethod yX4_roomOf ∈ th_T := th_in5 10 (by decide +kernel) rfl
theorem wim_X4_round : Cond.instanceMethod yX4_round ∈ th_T := th_in5 127 (by decide +kernel) rfl
theorem wim_X4_sends : Cond.instanceMethod yX4_sends ∈ th_T := th_in5 81 (by decide +kernel) rfl
theorem wim_X4_takeLevels : Cond.instanceMethod yX4_takeLevels ∈ th_T := th_in6 75 (by decide +kernel) rfl
theorem wim_X4_think : Cond.instanceMethod yX4_think ∈ th_T := th_in6 29 (by decide +kernel) rfl
theorem wim_X4_tideOf : Cond.instanceMethod yX4_tideOf ∈ th_T := th_in5 164 (by decide +kernel) rfl
theorem wim_X4_toBeLost : Cond.instanceMethod yX4_toBeLost ∈ th_T := th_in6 135 (by decide +kernel) rfl
theorem wim_X4_underWay : Cond.instanceMethod yX4_underWay ∈ th_T := th_in6 131 (by decide +kernel) rfl
theorem wim_X4_usedOf : Cond.instanceMethod yX4_usedOf ∈ th_T := th_in5 184 (by decide +kernel) rfl
theorem wim_X4_waterBy : Cond.instanceMethod yX4_waterBy ∈ th_T := th_in5 168 (by decide +kernel) rfl
theorem wim_X4_whyNot : Cond.instanceMethod yX4_whyNot ∈ th_T := th_in4 238 (by decide +kernel) rfl
theorem win_J6_bitCount_0f7a4 : Cond.initialized yJ6_bitCount_0f7a4.cls ∈ th_T := th_in1 7 (by decide +kernel) rfl
theorem win_J6_numberOfTrailingZeros_0f7a4 : Cond.initialized yJ6_numberOfTrailingZeros_0f7a4.cls ∈ th_T := th_in1 7 (by decide +kernel) rfl
theorem win_J7_fill_53178 : Cond.initialized yJ7_fill_53178.cls ∈ th_T := th_in1 4 (by decide +kernel) rfl
theorem win_J9_abs_0f7a4 : Cond.initialized "java/lang/Math" ∈ th_T := th_in1 8 (by decide +kernel) rfl
theorem win_J9_max_7cf53 : Cond.initialized "java/lang/Math" ∈ th_T := th_in1 8 (by decide +kernel) rfl
theorem win_J9_min_7cf53 : Cond.initialized "java/lang/Math" ∈ th_T := th_in1 8 (by decide +kernel) rfl
theorem win_X0_add : Cond.initialized yX0_add.cls ∈ th_T := th_in1 3 (by decide +kernel) rfl
theorem win_X0_boundOf : Cond.initialized yX0_boundOf.cls ∈ th_T := th_in1 3 (by decide +kernel) rfl
theorem win_X0_byWeight : Cond.initialized yX0_byWeight.cls ∈ th_T := th_in1 3 (by decide +kernel) rfl
theorem win_X0_copy : Cond.initialized yX0_copy.cls ∈ th_T := th_in1 3 (by decide +kernel) rfl
theorem win_X0_flowNamed : Cond.initialized yX0_flowNamed.cls ∈ th_T := th_in1 3 (by decide +kernel) rfl
theorem win_X0_freeNumber : Cond.initialized yX0_freeNumber.cls ∈ th_T := th_in1 3 (by decide +kernel) rfl
theorem win_X0_goesOver : Cond.initialized yX0_goesOver.cls ∈ th_T := th_in1 3 (by decide +kernel) rfl
theorem win_X0_greatestLevel : Cond.initialized yX0_greatestLevel.cls ∈ th_T := th_in1 3 (by decide +kernel) rfl
theorem win_X0_has : Cond.initialized yX0_has.cls ∈ th_T := th_in1 3 (by decide +kernel) rfl
theorem win_X0_hasRoom : Cond.initialized yX0_hasRoom.cls ∈ th_T := th_in1 3 (by decide +kernel) rfl
theorem win_X0_linksInUse : Cond.initialized yX0_linksInUse.cls ∈ th_T := th_in1 3 (by decide +kernel) rfl
theorem win_X0_ownOf : Cond.initialized yX0_ownOf.cls ∈ th_T := th_in1 3 (by decide +kernel) rfl
theorem win_X0_partOf : Cond.initialized yX0_partOf.cls ∈ th_T := th_in1 3 (by decide +kernel) rfl
theorem win_X0_rateBy : Cond.initialized yX0_rateBy.cls ∈ th_T := th_in1 3 (by decide +kernel) rfl
theorem win_X0_remove : Cond.initialized yX0_remove.cls ∈ th_T := th_in1 3 (by decide +kernel) rfl
theorem win_X0_setCapacity : Cond.initialized yX0_setCapacity.cls ∈ th_T := th_in1 3 (by decide +kernel) rfl
theorem win_X0_setPart : Cond.initialized yX0_setPart.cls ∈ th_T := th_in1 3 (by decide +kernel) rfl
theorem win_X0_setPath : Cond.initialized yX0_setPath.cls ∈ th_T := th_in1 3 (by decide +kernel) rfl
theorem win_X1_allToLose : Cond.initialized yX1_allToLose.cls ∈ th_T := th_in1 2 (by decide +kernel) rfl
theorem win_X1_arriveBack : Cond.initialized yX1_arriveBack.cls ∈ th_T := th_in1 2 (by decide +kernel) rfl
theorem win_X1_arriveForth : Cond.initialized yX1_arriveForth.cls ∈ th_T := th_in1 2 (by decide +kernel) rfl
theorem win_X1_bookedAt : Cond.initialized yX1_bookedAt.cls ∈ th_T := th_in1 2 (by decide +kernel) rfl
theorem win_X1_copy : Cond.initialized yX1_copy.cls ∈ th_T := th_in1 2 (by decide +kernel) rfl
theorem win_X1_elsewhere : Cond.initialized yX1_elsewhere.cls ∈ th_T := th_in1 2 (by decide +kernel) rfl
theorem win_X1_findMarks : Cond.initialized yX1_findMarks.cls ∈ th_T := th_in1 2 (by decide +kernel) rfl
theorem win_X1_forgetAll : Cond.initialized yX1_forgetAll.cls ∈ th_T := th_in1 2 (by decide +kernel) rfl
theorem win_X1_forgetAt : Cond.initialized yX1_forgetAt.cls ∈ th_T := th_in1 2 (by decide +kernel) rfl
theorem win_X1_forgetFlow : Cond.initialized yX1_forgetFlow.cls ∈ th_T := th_in1 2 (by decide +kernel) rfl
theorem win_X1_goOn : Cond.initialized yX1_goOn.cls ∈ th_T := th_in1 2 (by decide +kernel) rfl
theorem win_X1_goRound : Cond.initialized yX1_goRound.cls ∈ th_T := th_in1 2 (by decide +kernel) rfl
theorem win_X1_highestBelow : Cond.initialized yX1_highestBelow.cls ∈ th_T := th_in1 2 (by decide +kernel) rfl
theorem win_X1_isHeld : Cond.initialized yX1_isHeld.cls ∈ th_T := th_in1 2 (by decide +kernel) rfl
theorem win_X1_isLostAt : Cond.initialized yX1_isLostAt.cls ∈ th_T := th_in1 2 (by decide +kernel) rfl
theorem win_X1_isMarked : Cond.initialized yX1_isMarked.cls ∈ th_T := th_in1 2 (by decide +kernel) rfl
theorem win_X1_letGo : Cond.initialized yX1_letGo.cls ∈ th_T := th_in1 2 (by decide +kernel) rfl
theorem win_X1_lowestFrom : Cond.initialized yX1_lowestFrom.cls ∈ th_T := th_in1 2 (by decide +kernel) rfl
theorem win_X1_markBelow : Cond.initialized yX1_markBelow.cls ∈ th_T := th_in1 2 (by decide +kernel) rfl
theorem win_X1_markCount : Cond.initialized yX1_markCount.cls ∈ th_T := th_in1 2 (by decide +kernel) rfl
theorem win_X1_offerOf : Cond.initialized yX1_offerOf.cls ∈ th_T := th_in1 2 (by decide +kernel) rfl
theorem win_X1_overbooked : Cond.initialized yX1_overbooked.cls ∈ th_T := th_in1 2 (by decide +kernel) rfl
theorem win_X1_reroute : Cond.initialized yX1_reroute.cls ∈ th_T := th_in1 2 (by decide +kernel) rfl
theorem win_X1_send : Cond.initialized yX1_send.cls ∈ th_T := th_in1 2 (by decide +kernel) rfl
theorem win_X1_takeIn : Cond.initialized yX1_takeIn.cls ∈ th_T := th_in1 2 (by decide +kernel) rfl
theorem win_X1_tell : Cond.initialized yX1_tell.cls ∈ th_T := th_in1 2 (by decide +kernel) rfl
theorem win_X1_tellAhead : Cond.initialized yX1_tellAhead.cls ∈ th_T := th_in1 2 (by decide +kernel) rfl
theorem win_X1_tellBehind : Cond.initialized yX1_tellBehind.cls ∈ th_T := th_in1 2 (by decide +kernel) rfl
theorem win_X1_underWay : Cond.initialized yX1_underWay.cls ∈ th_T := th_in1 2 (by decide +kernel) rfl
theorem win_X2_below : Cond.initialized yX2_below.cls ∈ th_T := th_in1 5 (by decide +kernel) rfl
theorem win_X2_fix : Cond.initialized yX2_fix.cls ∈ th_T := th_in1 5 (by decide +kernel) rfl
theorem win_X2_fixedBy : Cond.initialized yX2_fixedBy.cls ∈ th_T := th_in1 5 (by decide +kernel) rfl
theorem win_X2_fullnessOf : Cond.initialized yX2_fullnessOf.cls ∈ th_T := th_in1 5 (by decide +kernel) rfl
theorem win_X2_greatestLevel : Cond.initialized yX2_greatestLevel.cls ∈ th_T := th_in1 5 (by decide +kernel) rfl
theorem win_X2_leastLevel : Cond.initialized yX2_leastLevel.cls ∈ th_T := th_in1 5 (by decide +kernel) rfl
theorem win_X2_leftOf : Cond.initialized yX2_leftOf.cls ∈ th_T := th_in1 5 (by decide +kernel) rfl
theorem win_X2_linksAt : Cond.initialized yX2_linksAt.cls ∈ th_T := th_in1 5 (by decide +kernel) rfl
theorem win_X2_nextSurface : Cond.initialized yX2_nextSurface.cls ∈ th_T := th_in1 5 (by decide +kernel) rfl
theorem win_X2_rankOf : Cond.initialized yX2_rankOf.cls ∈ th_T := th_in1 5 (by decide +kernel) rfl
theorem win_X2_rateOf : Cond.initialized yX2_rateOf.cls ∈ th_T := th_in1 5 (by decide +kernel) rfl
theorem win_X2_ratesOf : Cond.initialized yX2_ratesOf.cls ∈ th_T := th_in1 5 (by decide +kernel) rfl
theorem win_X2_rise : Cond.initialized yX2_rise.cls ∈ th_T := th_in1 5 (by decide +kernel) rfl
theorem win_X2_witnessedBy : Cond.initialized yX2_witnessedBy.cls ∈ th_T := th_in1 5 (by decide +kernel) rfl
theorem win_X3_blow : Cond.initialized yX3_blow.cls ∈ th_T := th_in1 1 (by decide +kernel) rfl
theorem win_X3_canBe : Cond.initialized yX3_canBe.cls ∈ th_T := th_in1 1 (by decide +kernel) rfl
theorem win_X3_commonDivisor : Cond.initialized yX3_commonDivisor.cls ∈ th_T := th_in1 1 (by decide +kernel) rfl
theorem win_X3_draw : Cond.initialized yX3_draw.cls ∈ th_T := th_in1 1 (by decide +kernel) rfl
theorem win_X3_farFromFair : Cond.initialized yX3_farFromFair.cls ∈ th_T := th_in1 1 (by decide +kernel) rfl
theorem win_X3_isAmount : Cond.initialized yX3_isAmount.cls ∈ th_T := th_in1 1 (by decide +kernel) rfl
theorem win_X3_isLink : Cond.initialized yX3_isLink.cls ∈ th_T := th_in1 1 (by decide +kernel) rfl
theorem win_X3_isPaperRounds : Cond.initialized yX3_isPaperRounds.cls ∈ th_T := th_in1 1 (by decide +kernel) rfl
theorem win_X3_isPath : Cond.initialized yX3_isPath.cls ∈ th_T := th_in1 1 (by decide +kernel) rfl
theorem win_X3_isWeight : Cond.initialized yX3_isWeight.cls ∈ th_T := th_in1 1 (by decide +kernel) rfl
theorem win_X3_newSheet : Cond.initialized yX3_newSheet.cls ∈ th_T := th_in1 1 (by decide +kernel) rfl
theorem win_X3_otherLevels : Cond.initialized yX3_otherLevels.cls ∈ th_T := th_in1 1 (by decide +kernel) rfl
theorem win_X3_refuse : Cond.initialized yX3_refuse.cls ∈ th_T := th_in1 1 (by decide +kernel) rfl
theorem win_X3_someoneComes : Cond.initialized yX3_someoneComes.cls ∈ th_T := th_in1 1 (by decide +kernel) rfl
theorem win_X3_someoneGoes : Cond.initialized yX3_someoneGoes.cls ∈ th_T := th_in1 1 (by decide +kernel) rfl
theorem win_X3_whyNoSuchFlow : Cond.initialized yX3_whyNoSuchFlow.cls ∈ th_T := th_in1 1 (by decide +kernel) rfl
theorem win_X3_whyNotCome : Cond.initialized yX3_whyNotCome.cls ∈ th_T := th_in1 1 (by decide +kernel) rfl
theorem win_X3_whyNotRoute : Cond.initialized yX3_whyNotRoute.cls ∈ th_T := th_in1 1 (by decide +kernel) rfl
theorem win_X3_widen : Cond.initialized yX3_widen.cls ∈ th_T := th_in1 1 (by decide +kernel) rfl
theorem win_X4_advertises : Cond.initialized yX4_advertises.cls ∈ th_T := th_in1 6 (by decide +kernel) rfl
theorem win_X4_allRates : Cond.initialized yX4_allRates.cls ∈ th_T := th_in1 6 (by decide +kernel) rfl
theorem win_X4_areLinks : Cond.initialized yX4_areLinks.cls ∈ th_T := th_in1 6 (by decide +kernel) rfl
theorem win_X4_at : Cond.initialized yX4_at.cls ∈ th_T := th_in1 6 (by decide +kernel) rfl
theorem win_X4_backTo : Cond.initialized yX4_backTo.cls ∈ th_T := th_in1 6 (by decide +kernel) rfl
theorem win_X4_bookedOf : Cond.initialized yX4_bookedOf.cls ∈ th_T := th_in1 6 (by decide +kernel) rfl
theorem win_X4_bound : Cond.initialized yX4_bound.cls ∈ th_T := th_in1 6 (by decide +kernel) rfl
theorem win_X4_comesByChance : Cond.initialized yX4_comesByChance.cls ∈ th_T := th_in1 6 (by decide +kernel) rfl
theorem win_X4_common : Cond.initialized yX4_common.cls ∈ th_T := th_in1 6 (by decide +kernel) rfl
theorem win_X4_copy : Cond.initialized yX4_copy.cls ∈ th_T := th_in1 6 (by decide +kernel) rfl
theorem win_X4_draw : Cond.initialized yX4_draw.cls ∈ th_T := th_in1 6 (by decide +kernel) rfl
theorem win_X4_elsewhere : Cond.initialized yX4_elsewhere.cls ∈ th_T := th_in1 6 (by decide +kernel) rfl
theorem win_X4_endThought : Cond.initialized yX4_endThought.cls ∈ th_T := th_in1 6 (by decide +kernel) rfl
theorem win_X4_fairRate : Cond.initialized yX4_fairRate.cls ∈ th_T := th_in1 6 (by decide +kernel) rfl
theorem win_X4_fix : Cond.initialized yX4_fix.cls ∈ th_T := th_in1 6 (by decide +kernel) rfl
theorem win_X4_flowMany : Cond.initialized yX4_flowMany.cls ∈ th_T := th_in1 6 (by decide +kernel) rfl
theorem win_X4_forth : Cond.initialized yX4_forth.cls ∈ th_T := th_in1 6 (by decide +kernel) rfl
theorem win_X4_freeNumber : Cond.initialized yX4_freeNumber.cls ∈ th_T := th_in1 6 (by decide +kernel) rfl
theorem win_X4_goesByChance : Cond.initialized yX4_goesByChance.cls ∈ th_T := th_in1 6 (by decide +kernel) rfl
theorem win_X4_goesOver : Cond.initialized yX4_goesOver.cls ∈ th_T := th_in1 6 (by decide +kernel) rfl
theorem win_X4_hasFlows : Cond.initialized yX4_hasFlows.cls ∈ th_T := th_in1 6 (by decide +kernel) rfl
theorem win_X4_heldMany : Cond.initialized yX4_heldMany.cls ∈ th_T := th_in1 6 (by decide +kernel) rfl
theorem win_X4_in : Cond.initialized yX4_in.cls ∈ th_T := th_in1 6 (by decide +kernel) rfl
theorem win_X4_isBound : Cond.initialized yX4_isBound.cls ∈ th_T := th_in1 6 (by decide +kernel) rfl
theorem win_X4_isFlow : Cond.initialized yX4_isFlow.cls ∈ th_T := th_in1 6 (by decide +kernel) rfl
theorem win_X4_isLink : Cond.initialized yX4_isLink.cls ∈ th_T := th_in1 6 (by decide +kernel) rfl
theorem win_X4_isOpen : Cond.initialized yX4_isOpen.cls ∈ th_T := th_in1 6 (by decide +kernel) rfl
theorem win_X4_isThere : Cond.initialized yX4_isThere.cls ∈ th_T := th_in1 6 (by decide +kernel) rfl
theorem win_X4_knowsNothing : Cond.initialized yX4_knowsNothing.cls ∈ th_T := th_in1 6 (by decide +kernel) rfl
theorem win_X4_lay : Cond.initialized yX4_lay.cls ∈ th_T := th_in1 6 (by decide +kernel) rfl
theorem win_X4_layFair : Cond.initialized yX4_layFair.cls ∈ th_T := th_in1 6 (by decide +kernel) rfl
theorem win_X4_leastLevel : Cond.initialized yX4_leastLevel.cls ∈ th_T := th_in1 6 (by decide +kernel) rfl
theorem win_X4_leftOf : Cond.initialized yX4_leftOf.cls ∈ th_T := th_in1 6 (by decide +kernel) rfl
theorem win_X4_lesser : Cond.initialized yX4_lesser.cls ∈ th_T := th_in1 6 (by decide +kernel) rfl
theorem win_X4_linksWithFlows : Cond.initialized yX4_linksWithFlows.cls ∈ th_T := th_in1 6 (by decide +kernel) rfl
theorem win_X4_marksAll : Cond.initialized yX4_marksAll.cls ∈ th_T := th_in1 6 (by decide +kernel) rfl
theorem win_X4_namedBy : Cond.initialized yX4_namedBy.cls ∈ th_T := th_in1 6 (by decide +kernel) rfl
theorem win_X4_nextLink : Cond.initialized yX4_nextLink.cls ∈ th_T := th_in1 6 (by decide +kernel) rfl
theorem win_X4_ones : Cond.initialized yX4_ones.cls ∈ th_T := th_in1 6 (by decide +kernel) rfl
theorem win_X4_othersBy : Cond.initialized yX4_othersBy.cls ∈ th_T := th_in1 6 (by decide +kernel) rfl
theorem win_X4_overbooked : Cond.initialized yX4_overbooked.cls ∈ th_T := th_in1 6 (by decide +kernel) rfl
theorem win_X4_own : Cond.initialized yX4_own.cls ∈ th_T := th_in1 6 (by decide +kernel) rfl
theorem win_X4_passLevel : Cond.initialized yX4_passLevel.cls ∈ th_T := th_in1 6 (by decide +kernel) rfl
theorem win_X4_rate : Cond.initialized yX4_rate.cls ∈ th_T := th_in1 6 (by decide +kernel) rfl
theorem win_X4_ratesBy : Cond.initialized yX4_ratesBy.cls ∈ th_T := th_in1 6 (by decide +kernel) rfl
theorem win_X4_refuse : Cond.initialized yX4_refuse.cls ∈ th_T := th_in1 6 (by decide +kernel) rfl
theorem win_X4_reroute : Cond.initialized yX4_reroute.cls ∈ th_T := th_in1 6 (by decide +kernel) rfl
theorem win_X4_roomOf : Cond.initialized yX4_roomOf.cls ∈ th_T := th_in1 6 (by decide +kernel) rfl
theorem win_X4_round : Cond.initialized yX4_round.cls ∈ th_T := th_in1 6 (by decide +kernel) rfl
theorem win_X4_sends : Cond.initialized yX4_sends.cls ∈ th_T := th_in1 6 (by decide +kernel) rfl
theorem win_X4_takeLevels : Cond.initialized yX4_takeLevels.cls ∈ th_T := th_in1 6 (by decide +kernel) rfl
theorem win_X4_think : Cond.initialized yX4_think.cls ∈ th_T := th_in1 6 (by decide +kernel) rfl
theorem win_X4_tideOf : Cond.initialized yX4_tideOf.cls ∈ th_T := th_in1 6 (by decide +kernel) rfl
theorem win_X4_toBeLost : Cond.initialized yX4_toBeLost.cls ∈ th_T := th_in1 6 (by decide +kernel) rfl
theorem win_X4_underWay : Cond.initialized yX4_underWay.cls ∈ th_T := th_in1 6 (by decide +kernel) rfl
theorem win_X4_usedOf : Cond.initialized yX4_usedOf.cls ∈ th_T := th_in1 6 (by decide +kernel) rfl
theorem win_X4_waterBy : Cond.initialized yX4_waterBy.cls ∈ th_T := th_in1 6 (by decide +kernel) rfl
theorem win_X4_whyNot : Cond.initialized yX4_whyNot.cls ∈ th_T := th_in1 6 (by decide +kernel) rfl
theorem wml_X0_33 : Cond.methodLink RX0 33 arraycopyName ∈ th_T := th_in2 232 (by decide +kernel) rfl
theorem wml_X0_46 : Cond.methodLink RX0 46 yX0_has ∈ th_T := th_in2 22 (by decide +kernel) rfl
theorem wml_X0_50 : Cond.methodLink RX0 50 yX0_freeNumber ∈ th_T := th_in2 43 (by decide +kernel) rfl
theorem wml_X0_54 : Cond.methodLink RX0 54 yX0_setPath ∈ th_T := th_in2 44 (by decide +kernel) rfl
theorem wml_X0_58 : Cond.methodLink RX0 58 yX0_goesOver ∈ th_T := th_in2 48 (by decide +kernel) rfl
theorem wml_X0_62 : Cond.methodLink RX0 62 yX0_boundOf ∈ th_T := th_in2 30 (by decide +kernel) rfl
theorem wml_X0_66 : Cond.methodLink RX0 66 yX0_byWeight ∈ th_T := th_in2 136 (by decide +kernel) rfl
theorem wml_X0_70 : Cond.methodLink RX0 70 Lib.Math.max.name ∈ th_T := th_in2 173 (by decide +kernel) rfl
theorem wml_X0_76 : Cond.methodLink RX0 76 yX0_rateBy ∈ th_T := th_in2 169 (by decide +kernel) rfl
theorem wml_X0_79 : Cond.methodLink RX0 79 Lib.Math.min.name ∈ th_T := th_in2 176 (by decide +kernel) rfl
theorem wml_X1_101 : Cond.methodLink RX1 101 Lib.Math.min.name ∈ th_T := th_in2 161 (by decide +kernel) rfl
theorem wml_X1_110 : Cond.methodLink RX1 110 yX1_elsewhere ∈ th_T := th_in2 157 (by decide +kernel) rfl
theorem wml_X1_113 : Cond.methodLink RX1 113 yX0_greatestLevel ∈ th_T := th_in2 164 (by decide +kernel) rfl
theorem wml_X1_117 : Cond.methodLink RX1 117 yX1_offerOf ∈ th_T := th_in2 153 (by decide +kernel) rfl
theorem wml_X1_121 : Cond.methodLink RX1 121 yX0_has ∈ th_T := th_in2 209 (by decide +kernel) rfl
theorem wml_X1_125 : Cond.methodLink RX1 125 yX1_isMarked ∈ th_T := th_in4 28 (by decide +kernel) rfl
theorem wml_X1_128 : Cond.methodLink RX1 128 yX1_markBelow ∈ th_T := th_in3 120 (by decide +kernel) rfl
theorem wml_X1_138 : Cond.methodLink RX1 138 yX0_ownOf ∈ th_T := th_in2 132 (by decide +kernel) rfl
theorem wml_X1_141 : Cond.methodLink RX1 141 yX1_tellAhead ∈ th_T := th_in2 145 (by decide +kernel) rfl
theorem wml_X1_145 : Cond.methodLink RX1 145 yX1_isLostAt ∈ th_T := th_in2 149 (by decide +kernel) rfl
theorem wml_X1_148 : Cond.methodLink RX1 148 yX1_tell ∈ th_T := th_in2 177 (by decide +kernel) rfl
theorem wml_X1_151 : Cond.methodLink RX1 151 yX1_tellBehind ∈ th_T := th_in2 185 (by decide +kernel) rfl
theorem wml_X1_154 : Cond.methodLink RX1 154 yX1_isHeld ∈ th_T := th_in2 210 (by decide +kernel) rfl
theorem wml_X1_157 : Cond.methodLink RX1 157 yX1_send ∈ th_T := th_in2 211 (by decide +kernel) rfl
theorem wml_X1_160 : Cond.methodLink RX1 160 yX1_lowestFrom ∈ th_T := th_in2 128 (by decide +kernel) rfl
theorem wml_X1_166 : Cond.methodLink RX1 166 yX1_arriveForth ∈ th_T := th_in2 141 (by decide +kernel) rfl
theorem wml_X1_169 : Cond.methodLink RX1 169 yX1_arriveBack ∈ th_T := th_in2 181 (by decide +kernel) rfl
theorem wml_X1_172 : Cond.methodLink RX1 172 yX1_highestBelow ∈ th_T := th_in2 189 (by decide +kernel) rfl
theorem wml_X1_175 : Cond.methodLink RX1 175 yX0_rateBy ∈ th_T := th_in3 141 (by decide +kernel) rfl
theorem wml_X1_178 : Cond.methodLink RX1 178 yX1_bookedAt ∈ th_T := th_in3 150 (by decide +kernel) rfl
theorem wml_X1_51 : Cond.methodLink RX1 51 yJ7_fill_53178 ∈ th_T := th_in1 80 (by decide +kernel) rfl
theorem wml_X1_57 : Cond.methodLink RX1 57 yX0_copy ∈ th_T := th_in2 228 (by decide +kernel) rfl
theorem wml_X1_61 : Cond.methodLink RX1 61 arraycopyName ∈ th_T := th_in2 235 (by decide +kernel) rfl
theorem wml_X1_79 : Cond.methodLink RX1 79 yX0_add ∈ th_T := th_in2 39 (by decide +kernel) rfl
theorem wml_X1_83 : Cond.methodLink RX1 83 yX0_remove ∈ th_T := th_in2 61 (by decide +kernel) rfl
theorem wml_X1_87 : Cond.methodLink RX1 87 yX1_forgetFlow ∈ th_T := th_in2 65 (by decide +kernel) rfl
theorem wml_X1_90 : Cond.methodLink RX1 90 yX0_setPath ∈ th_T := th_in2 114 (by decide +kernel) rfl
theorem wml_X1_94 : Cond.methodLink RX1 94 yX0_goesOver ∈ th_T := th_in2 115 (by decide +kernel) rfl
theorem wml_X1_98 : Cond.methodLink RX1 98 yX1_forgetAt ∈ th_T := th_in2 69 (by decide +kernel) rfl
theorem wml_X2_102 : Cond.methodLink RX2 102 yX0_rateBy ∈ th_T := th_in3 45 (by decide +kernel) rfl
theorem wml_X2_108 : Cond.methodLink RX2 108 yX2_ratesOf ∈ th_T := th_in3 50 (by decide +kernel) rfl
theorem wml_X2_111 : Cond.methodLink RX2 111 Lib.Math.max.name ∈ th_T := th_in3 68 (by decide +kernel) rfl
theorem wml_X2_114 : Cond.methodLink RX2 114 yX2_below ∈ th_T := th_in3 81 (by decide +kernel) rfl
theorem wml_X2_117 : Cond.methodLink RX2 117 yJ6_bitCount_0f7a4 ∈ th_T := th_in3 85 (by decide +kernel) rfl
theorem wml_X2_120 : Cond.methodLink RX2 120 yX2_leftOf ∈ th_T := th_in3 94 (by decide +kernel) rfl
theorem wml_X2_47 : Cond.methodLink RX2 47 yJ7_fill_53178 ∈ th_T := th_in3 17 (by decide +kernel) rfl
theorem wml_X2_59 : Cond.methodLink RX2 59 yX2_nextSurface ∈ th_T := th_in3 18 (by decide +kernel) rfl
theorem wml_X2_63 : Cond.methodLink RX2 63 yX2_linksAt ∈ th_T := th_in3 25 (by decide +kernel) rfl
theorem wml_X2_66 : Cond.methodLink RX2 66 yX2_fixedBy ∈ th_T := th_in3 29 (by decide +kernel) rfl
theorem wml_X2_70 : Cond.methodLink RX2 70 yX2_fix ∈ th_T := th_in3 33 (by decide +kernel) rfl
theorem wml_X2_77 : Cond.methodLink RX2 77 yX0_greatestLevel ∈ th_T := th_in3 22 (by decide +kernel) rfl
theorem wml_X2_81 : Cond.methodLink RX2 81 Lib.Math.min.name ∈ th_T := th_in3 23 (by decide +kernel) rfl
theorem wml_X2_87 : Cond.methodLink RX2 87 yX0_ownOf ∈ th_T := th_in3 24 (by decide +kernel) rfl
theorem wml_X2_93 : Cond.methodLink RX2 93 yJ6_numberOfTrailingZeros_0f7a4 ∈ th_T := th_in3 37 (by decide +kernel) rfl
theorem wml_X2_98 : Cond.methodLink RX2 98 yX0_has ∈ th_T := th_in3 55 (by decide +kernel) rfl
theorem wml_X3_106 : Cond.methodLink RX3 106 yX0_partOf ∈ th_T := th_in2 86 (by decide +kernel) rfl
theorem wml_X3_113 : Cond.methodLink RX3 113 yX0_hasRoom ∈ th_T := th_in2 26 (by decide +kernel) rfl
theorem wml_X3_116 : Cond.methodLink RX3 116 yX0_setPart ∈ th_T := th_in2 90 (by decide +kernel) rfl
theorem wml_X3_120 : Cond.methodLink RX3 120 yX1_isHeld ∈ th_T := th_in2 98 (by decide +kernel) rfl
theorem wml_X3_126 : Cond.methodLink RX3 126 yX3_whyNotRoute ∈ th_T := th_in2 106 (by decide +kernel) rfl
theorem wml_X3_129 : Cond.methodLink RX3 129 yX1_reroute ∈ th_T := th_in2 110 (by decide +kernel) rfl
theorem wml_X3_135 : Cond.methodLink RX3 135 yX1_goOn ∈ th_T := th_in2 124 (by decide +kernel) rfl
theorem wml_X3_138 : Cond.methodLink RX3 138 yX1_send ∈ th_T := th_in2 197 (by decide +kernel) rfl
theorem wml_X3_144 : Cond.methodLink RX3 144 yX1_goRound ∈ th_T := th_in2 205 (by decide +kernel) rfl
theorem wml_X3_148 : Cond.methodLink RX3 148 yX1_forgetAll ∈ th_T := th_in2 216 (by decide +kernel) rfl
theorem wml_X3_151 : Cond.methodLink RX3 151 yX1_copy ∈ th_T := th_in2 224 (by decide +kernel) rfl
theorem wml_X3_178 : Cond.methodLink RX3 178 yX0_ownOf ∈ th_T := th_in4 111 (by decide +kernel) rfl
theorem wml_X3_181 : Cond.methodLink RX3 181 yX0_rateBy ∈ th_T := th_in4 112 (by decide +kernel) rfl
theorem wml_X3_184 : Cond.methodLink RX3 184 yX0_flowNamed ∈ th_T := th_in2 31 (by decide +kernel) rfl
theorem wml_X3_187 : Cond.methodLink RX3 187 yX2_rise ∈ th_T := th_in3 12 (by decide +kernel) rfl
theorem wml_X3_190 : Cond.methodLink RX3 190 yX2_rateOf ∈ th_T := th_in3 100 (by decide +kernel) rfl
theorem wml_X3_202 : Cond.methodLink RX3 202 yX2_ratesOf ∈ th_T := th_in3 41 (by decide +kernel) rfl
theorem wml_X3_205 : Cond.methodLink RX3 205 yX2_leftOf ∈ th_T := th_in3 46 (by decide +kernel) rfl
theorem wml_X3_208 : Cond.methodLink RX3 208 yX2_witnessedBy ∈ th_T := th_in3 51 (by decide +kernel) rfl
theorem wml_X3_214 : Cond.methodLink RX3 214 yX2_leastLevel ∈ th_T := th_in3 60 (by decide +kernel) rfl
theorem wml_X3_218 : Cond.methodLink RX3 218 yX2_greatestLevel ∈ th_T := th_in3 64 (by decide +kernel) rfl
theorem wml_X3_230 : Cond.methodLink RX3 230 yX2_rankOf ∈ th_T := th_in3 77 (by decide +kernel) rfl
theorem wml_X3_233 : Cond.methodLink RX3 233 yX2_below ∈ th_T := th_in4 127 (by decide +kernel) rfl
theorem wml_X3_236 : Cond.methodLink RX3 236 yX2_fullnessOf ∈ th_T := th_in3 90 (by decide +kernel) rfl
theorem wml_X3_241 : Cond.methodLink RX3 241 yX3_commonDivisor ∈ th_T := th_in3 104 (by decide +kernel) rfl
theorem wml_X3_245 : Cond.methodLink RX3 245 yX1_offerOf ∈ th_T := th_in3 111 (by decide +kernel) rfl
theorem wml_X3_248 : Cond.methodLink RX3 248 yX1_findMarks ∈ th_T := th_in3 116 (by decide +kernel) rfl
theorem wml_X3_252 : Cond.methodLink RX3 252 yX0_goesOver ∈ th_T := th_in3 128 (by decide +kernel) rfl
theorem wml_X3_261 : Cond.methodLink RX3 261 yX1_isMarked ∈ th_T := th_in3 129 (by decide +kernel) rfl
theorem wml_X3_264 : Cond.methodLink RX3 264 yX1_bookedAt ∈ th_T := th_in3 137 (by decide +kernel) rfl
theorem wml_X3_267 : Cond.methodLink RX3 267 yX1_overbooked ∈ th_T := th_in3 146 (by decide +kernel) rfl
theorem wml_X3_270 : Cond.methodLink RX3 270 yX3_farFromFair ∈ th_T := th_in3 155 (by decide +kernel) rfl
theorem wml_X3_274 : Cond.methodLink RX3 274 yX3_isPaperRounds ∈ th_T := th_in3 166 (by decide +kernel) rfl
theorem wml_X3_278 : Cond.methodLink RX3 278 Lib.Math.max.name ∈ th_T := th_in3 169 (by decide +kernel) rfl
theorem wml_X3_283 : Cond.methodLink RX3 283 Lib.Math.min.name ∈ th_T := th_in3 170 (by decide +kernel) rfl
theorem wml_X3_286 : Cond.methodLink RX3 286 yX3_whyNoSuchFlow ∈ th_T := th_in2 9 (by decide +kernel) rfl
theorem wml_X3_290 : Cond.methodLink RX3 290 yX3_newSheet ∈ th_T := th_in3 183 (by decide +kernel) rfl
theorem wml_X3_294 : Cond.methodLink RX3 294 yX0_add ∈ th_T := th_in3 188 (by decide +kernel) rfl
theorem wml_X3_297 : Cond.methodLink RX3 297 yX0_setPath ∈ th_T := th_in3 193 (by decide +kernel) rfl
theorem wml_X3_301 : Cond.methodLink RX3 301 yX3_isPath ∈ th_T := th_in2 12 (by decide +kernel) rfl
theorem wml_X3_304 : Cond.methodLink RX3 304 yX0_freeNumber ∈ th_T := th_in2 18 (by decide +kernel) rfl
theorem wml_X3_307 : Cond.methodLink RX3 307 yX3_otherLevels ∈ th_T := th_in3 211 (by decide +kernel) rfl
theorem wml_X3_310 : Cond.methodLink RX3 310 yX0_remove ∈ th_T := th_in3 219 (by decide +kernel) rfl
theorem wml_X3_313 : Cond.methodLink RX3 313 yX3_widen ∈ th_T := th_in3 224 (by decide +kernel) rfl
theorem wml_X3_316 : Cond.methodLink RX3 316 yX3_blow ∈ th_T := th_in4 0 (by decide +kernel) rfl
theorem wml_X3_319 : Cond.methodLink RX3 319 yX0_linksInUse ∈ th_T := th_in4 20 (by decide +kernel) rfl
theorem wml_X3_328 : Cond.methodLink RX3 328 yX1_markCount ∈ th_T := th_in4 24 (by decide +kernel) rfl
theorem wml_X3_334 : Cond.methodLink RX3 334 yX1_underWay ∈ th_T := th_in4 29 (by decide +kernel) rfl
theorem wml_X3_337 : Cond.methodLink RX3 337 yX1_allToLose ∈ th_T := th_in4 33 (by decide +kernel) rfl
theorem wml_X3_340 : Cond.methodLink RX3 340 yX3_isWeight ∈ th_T := th_in2 15 (by decide +kernel) rfl
theorem wml_X3_343 : Cond.methodLink RX3 343 yX0_copy ∈ th_T := th_in3 187 (by decide +kernel) rfl
theorem wml_X3_345 : Cond.methodLink RX3 345 Lib.Math.abs.name ∈ th_T := th_in3 159 (by decide +kernel) rfl
theorem wml_X3_349 : Cond.methodLink RX3 349 yX3_draw ∈ th_T := th_in4 4 (by decide +kernel) rfl
theorem wml_X3_352 : Cond.methodLink RX3 352 yX3_someoneComes ∈ th_T := th_in4 8 (by decide +kernel) rfl
theorem wml_X3_355 : Cond.methodLink RX3 355 yX3_someoneGoes ∈ th_T := th_in4 12 (by decide +kernel) rfl
theorem wml_X3_49 : Cond.methodLink RX3 49 yX3_isLink ∈ th_T := th_in1 223 (by decide +kernel) rfl
theorem wml_X3_53 : Cond.methodLink RX3 53 yX3_isAmount ∈ th_T := th_in1 226 (by decide +kernel) rfl
theorem wml_X3_56 : Cond.methodLink RX3 56 yX3_refuse ∈ th_T := th_in1 230 (by decide +kernel) rfl
theorem wml_X3_65 : Cond.methodLink RX3 65 yX0_boundOf ∈ th_T := th_in1 234 (by decide +kernel) rfl
theorem wml_X3_68 : Cond.methodLink RX3 68 yX0_setCapacity ∈ th_T := th_in1 238 (by decide +kernel) rfl
theorem wml_X3_72 : Cond.methodLink RX3 72 yX3_whyNotCome ∈ th_T := th_in2 6 (by decide +kernel) rfl
theorem wml_X3_76 : Cond.methodLink RX3 76 yX1_takeIn ∈ th_T := th_in2 35 (by decide +kernel) rfl
theorem wml_X3_80 : Cond.methodLink RX3 80 yX0_has ∈ th_T := th_in2 56 (by decide +kernel) rfl
theorem wml_X3_83 : Cond.methodLink RX3 83 yX1_letGo ∈ th_T := th_in2 57 (by decide +kernel) rfl
theorem wml_X3_91 : Cond.methodLink RX3 91 yJ6_bitCount_0f7a4 ∈ th_T := th_in2 73 (by decide +kernel) rfl
theorem wml_X3_96 : Cond.methodLink RX3 96 yX3_canBe ∈ th_T := th_in2 83 (by decide +kernel) rfl
theorem wml_X4_101 : Cond.methodLink RX4 101 yX4_freeNumber ∈ th_T := th_in5 4 (by decide +kernel) rfl
theorem wml_X4_105 : Cond.methodLink RX4 105 yX4_roomOf ∈ th_T := th_in5 8 (by decide +kernel) rfl
theorem wml_X4_108 : Cond.methodLink RX4 108 yX4_lesser ∈ th_T := th_in5 13 (by decide +kernel) rfl
theorem wml_X4_112 : Cond.methodLink RX4 112 yX4_whyNot ∈ th_T := th_in4 236 (by decide +kernel) rfl
theorem wml_X4_118 : Cond.methodLink RX4 118 yX4_namedBy ∈ th_T := th_in5 17 (by decide +kernel) rfl
theorem wml_X4_121 : Cond.methodLink RX4 121 yX4_lay ∈ th_T := th_in5 21 (by decide +kernel) rfl
theorem wml_X4_125 : Cond.methodLink RX4 125 yX4_isFlow ∈ th_T := th_in5 33 (by decide +kernel) rfl
theorem wml_X4_128 : Cond.methodLink RX4 128 yX4_flowMany ∈ th_T := th_in5 38 (by decide +kernel) rfl
theorem wml_X4_133 : Cond.methodLink RX4 133 yX4_isBound ∈ th_T := th_in5 47 (by decide +kernel) rfl
theorem wml_X4_137 : Cond.methodLink RX4 137 yX4_heldMany ∈ th_T := th_in5 55 (by decide +kernel) rfl
theorem wml_X4_140 : Cond.methodLink RX4 140 yX4_ones ∈ th_T := th_in5 67 (by decide +kernel) rfl
theorem wml_X4_143 : Cond.methodLink RX4 143 yX4_reroute ∈ th_T := th_in5 63 (by decide +kernel) rfl
theorem wml_X4_148 : Cond.methodLink RX4 148 yX4_elsewhere ∈ th_T := th_in5 100 (by decide +kernel) rfl
theorem wml_X4_151 : Cond.methodLink RX4 151 yX4_rate ∈ th_T := th_in5 104 (by decide +kernel) rfl
theorem wml_X4_155 : Cond.methodLink RX4 155 yX4_ratesBy ∈ th_T := th_in5 96 (by decide +kernel) rfl
theorem wml_X4_159 : Cond.methodLink RX4 159 yX4_advertises ∈ th_T := th_in5 91 (by decide +kernel) rfl
theorem wml_X4_162 : Cond.methodLink RX4 162 yX4_own ∈ th_T := th_in5 83 (by decide +kernel) rfl
theorem wml_X4_165 : Cond.methodLink RX4 165 yX4_forth ∈ th_T := th_in5 87 (by decide +kernel) rfl
theorem wml_X4_169 : Cond.methodLink RX4 169 yX4_backTo ∈ th_T := th_in5 108 (by decide +kernel) rfl
theorem wml_X4_172 : Cond.methodLink RX4 172 yX4_sends ∈ th_T := th_in5 79 (by decide +kernel) rfl
theorem wml_X4_176 : Cond.methodLink RX4 176 yX4_nextLink ∈ th_T := th_in5 116 (by decide +kernel) rfl
theorem wml_X4_181 : Cond.methodLink RX4 181 yX4_round ∈ th_T := th_in5 125 (by decide +kernel) rfl
theorem wml_X4_184 : Cond.methodLink RX4 184 yX4_waterBy ∈ th_T := th_in5 166 (by decide +kernel) rfl
theorem wml_X4_190 : Cond.methodLink RX4 190 yX4_isOpen ∈ th_T := th_in5 158 (by decide +kernel) rfl
theorem wml_X4_193 : Cond.methodLink RX4 193 yX4_tideOf ∈ th_T := th_in5 162 (by decide +kernel) rfl
theorem wml_X4_196 : Cond.methodLink RX4 196 yX4_fix ∈ th_T := th_in5 170 (by decide +kernel) rfl
theorem wml_X4_199 : Cond.methodLink RX4 199 yX4_fairRate ∈ th_T := th_in5 174 (by decide +kernel) rfl
theorem wml_X4_202 : Cond.methodLink RX4 202 yX4_isThere ∈ th_T := th_in5 141 (by decide +kernel) rfl
theorem wml_X4_207 : Cond.methodLink RX4 207 yX4_layFair ∈ th_T := th_in5 154 (by decide +kernel) rfl
theorem wml_X4_210 : Cond.methodLink RX4 210 yX4_usedOf ∈ th_T := th_in5 182 (by decide +kernel) rfl
theorem wml_X4_213 : Cond.methodLink RX4 213 yX4_leastLevel ∈ th_T := th_in5 190 (by decide +kernel) rfl
theorem wml_X4_216 : Cond.methodLink RX4 216 yX4_allRates ∈ th_T := th_in5 194 (by decide +kernel) rfl
theorem wml_X4_221 : Cond.methodLink RX4 221 yX4_hasFlows ∈ th_T := th_in5 215 (by decide +kernel) rfl
theorem wml_X4_224 : Cond.methodLink RX4 224 yX4_leftOf ∈ th_T := th_in5 219 (by decide +kernel) rfl
theorem wml_X4_229 : Cond.methodLink RX4 229 yX4_common ∈ th_T := th_in5 228 (by decide +kernel) rfl
theorem wml_X4_236 : Cond.methodLink RX4 236 yX4_passLevel ∈ th_T := th_in5 239 (by decide +kernel) rfl
theorem wml_X4_239 : Cond.methodLink RX4 239 yX4_bookedOf ∈ th_T := th_in6 11 (by decide +kernel) rfl
theorem wml_X4_242 : Cond.methodLink RX4 242 yX4_overbooked ∈ th_T := th_in6 19 (by decide +kernel) rfl
theorem wml_X4_245 : Cond.methodLink RX4 245 yX4_think ∈ th_T := th_in6 27 (by decide +kernel) rfl
theorem wml_X4_248 : Cond.methodLink RX4 248 yX4_endThought ∈ th_T := th_in6 31 (by decide +kernel) rfl
theorem wml_X4_254 : Cond.methodLink RX4 254 yX4_takeLevels ∈ th_T := th_in6 73 (by decide +kernel) rfl
theorem wml_X4_257 : Cond.methodLink RX4 257 yX4_othersBy ∈ th_T := th_in6 77 (by decide +kernel) rfl
theorem wml_X4_270 : Cond.methodLink RX4 270 yX4_draw ∈ th_T := th_in6 102 (by decide +kernel) rfl
theorem wml_X4_275 : Cond.methodLink RX4 275 yX4_comesByChance ∈ th_T := th_in6 109 (by decide +kernel) rfl
theorem wml_X4_278 : Cond.methodLink RX4 278 yX4_goesByChance ∈ th_T := th_in6 113 (by decide +kernel) rfl
theorem wml_X4_281 : Cond.methodLink RX4 281 yX4_linksWithFlows ∈ th_T := th_in6 121 (by decide +kernel) rfl
theorem wml_X4_284 : Cond.methodLink RX4 284 yX4_marksAll ∈ th_T := th_in6 125 (by decide +kernel) rfl
theorem wml_X4_287 : Cond.methodLink RX4 287 yX4_underWay ∈ th_T := th_in6 129 (by decide +kernel) rfl
theorem wml_X4_290 : Cond.methodLink RX4 290 yX4_toBeLost ∈ th_T := th_in6 133 (by decide +kernel) rfl
theorem wml_X4_59 : Cond.methodLink RX4 59 yX4_copy ∈ th_T := th_in4 201 (by decide +kernel) rfl
theorem wml_X4_63 : Cond.methodLink RX4 63 yX4_in ∈ th_T := th_in4 198 (by decide +kernel) rfl
theorem wml_X4_71 : Cond.methodLink RX4 71 yX4_at ∈ th_T := th_in4 229 (by decide +kernel) rfl
theorem wml_X4_75 : Cond.methodLink RX4 75 yX4_goesOver ∈ th_T := th_in4 225 (by decide +kernel) rfl
theorem wml_X4_79 : Cond.methodLink RX4 79 yX4_bound ∈ th_T := th_in4 221 (by decide +kernel) rfl
theorem wml_X4_82 : Cond.methodLink RX4 82 yX4_isLink ∈ th_T := th_in4 212 (by decide +kernel) rfl
theorem wml_X4_88 : Cond.methodLink RX4 88 yX4_refuse ∈ th_T := th_in4 217 (by decide +kernel) rfl
theorem wml_X4_94 : Cond.methodLink RX4 94 yX4_knowsNothing ∈ th_T := th_in5 25 (by decide +kernel) rfl
theorem wml_X4_98 : Cond.methodLink RX4 98 yX4_areLinks ∈ th_T := th_in5 0 (by decide +kernel) rfl
theorem wse_X0_add : Cond.selects RX0 yX0_add yX0_add ∈ th_T := th_in2 41 (by decide +kernel) rfl
theorem wse_X0_boundOf : Cond.selects RX0 yX0_boundOf yX0_boundOf ∈ th_T := th_in1 236 (by decide +kernel) rfl
theorem wse_X0_byWeight : Cond.selects RX0 yX0_byWeight yX0_byWeight ∈ th_T := th_in0 5 (by decide +kernel) rfl
theorem wse_X0_copy : Cond.selects RX0 yX0_copy yX0_copy ∈ th_T := th_in2 230 (by decide +kernel) rfl
theorem wse_X0_flowNamed : Cond.selects RX0 yX0_flowNamed yX0_flowNamed ∈ th_T := th_in2 33 (by decide +kernel) rfl
theorem wse_X0_freeNumber : Cond.selects RX0 yX0_freeNumber yX0_freeNumber ∈ th_T := th_in2 20 (by decide +kernel) rfl
theorem wse_X0_goesOver : Cond.selects RX0 yX0_goesOver yX0_goesOver ∈ th_T := th_in2 50 (by decide +kernel) rfl
theorem wse_X0_greatestLevel : Cond.selects RX0 yX0_greatestLevel yX0_greatestLevel ∈ th_T := th_in2 166 (by decide +kernel) rfl
theorem wse_X0_has : Cond.selects RX0 yX0_has yX0_has ∈ th_T := th_in2 24 (by decide +kernel) rfl
theorem wse_X0_hasRoom : Cond.selects RX0 yX0_hasRoom yX0_hasRoom ∈ th_T := th_in2 28 (by decide +kernel) rfl
theorem wse_X0_linksInUse : Cond.selects RX0 yX0_linksInUse yX0_linksInUse ∈ th_T := th_in4 22 (by decide +kernel) rfl
theorem wse_X0_ownOf : Cond.selects RX0 yX0_ownOf yX0_ownOf ∈ th_T := th_in2 134 (by decide +kernel) rfl
theorem wse_X0_partOf : Cond.selects RX0 yX0_partOf yX0_partOf ∈ th_T := th_in2 88 (by decide +kernel) rfl
theorem wse_X0_rateBy : Cond.selects RX0 yX0_rateBy yX0_rateBy ∈ th_T := th_in2 171 (by decide +kernel) rfl
theorem wse_X0_remove : Cond.selects RX0 yX0_remove yX0_remove ∈ th_T := th_in2 63 (by decide +kernel) rfl
theorem wse_X0_setCapacity : Cond.selects RX0 yX0_setCapacity yX0_setCapacity ∈ th_T := th_in2 0 (by decide +kernel) rfl
theorem wse_X0_setPart : Cond.selects RX0 yX0_setPart yX0_setPart ∈ th_T := th_in2 92 (by decide +kernel) rfl
theorem wse_X0_setPath : Cond.selects RX0 yX0_setPath yX0_setPath ∈ th_T := th_in2 46 (by decide +kernel) rfl
theorem wse_X1_allToLose : Cond.selects RX1 yX1_allToLose yX1_allToLose ∈ th_T := th_in4 35 (by decide +kernel) rfl
theorem wse_X1_arriveBack : Cond.selects RX1 yX1_arriveBack yX1_arriveBack ∈ th_T := th_in0 10 (by decide +kernel) rfl
theorem wse_X1_arriveForth : Cond.selects RX1 yX1_arriveForth yX1_arriveForth ∈ th_T := th_in0 6 (by decide +kernel) rfl
theorem wse_X1_bookedAt : Cond.selects RX1 yX1_bookedAt yX1_bookedAt ∈ th_T := th_in3 139 (by decide +kernel) rfl
theorem wse_X1_copy : Cond.selects RX1 yX1_copy yX1_copy ∈ th_T := th_in2 226 (by decide +kernel) rfl
theorem wse_X1_elsewhere : Cond.selects RX1 yX1_elsewhere yX1_elsewhere ∈ th_T := th_in2 159 (by decide +kernel) rfl
theorem wse_X1_findMarks : Cond.selects RX1 yX1_findMarks yX1_findMarks ∈ th_T := th_in3 118 (by decide +kernel) rfl
theorem wse_X1_forgetAll : Cond.selects RX1 yX1_forgetAll yX1_forgetAll ∈ th_T := th_in2 218 (by decide +kernel) rfl
theorem wse_X1_forgetAt : Cond.selects RX1 yX1_forgetAt yX1_forgetAt ∈ th_T := th_in0 2 (by decide +kernel) rfl
theorem wse_X1_forgetFlow : Cond.selects RX1 yX1_forgetFlow yX1_forgetFlow ∈ th_T := th_in0 1 (by decide +kernel) rfl
theorem wse_X1_goOn : Cond.selects RX1 yX1_goOn yX1_goOn ∈ th_T := th_in2 126 (by decide +kernel) rfl
theorem wse_X1_goRound : Cond.selects RX1 yX1_goRound yX1_goRound ∈ th_T := th_in2 207 (by decide +kernel) rfl
theorem wse_X1_highestBelow : Cond.selects RX1 yX1_highestBelow yX1_highestBelow ∈ th_T := th_in0 12 (by decide +kernel) rfl
theorem wse_X1_isHeld : Cond.selects RX1 yX1_isHeld yX1_isHeld ∈ th_T := th_in2 100 (by decide +kernel) rfl
theorem wse_X1_isLostAt : Cond.selects RX1 yX1_isLostAt yX1_isLostAt ∈ th_T := th_in0 8 (by decide +kernel) rfl
theorem wse_X1_isMarked : Cond.selects RX1 yX1_isMarked yX1_isMarked ∈ th_T := th_in3 131 (by decide +kernel) rfl
theorem wse_X1_letGo : Cond.selects RX1 yX1_letGo yX1_letGo ∈ th_T := th_in2 59 (by decide +kernel) rfl
theorem wse_X1_lowestFrom : Cond.selects RX1 yX1_lowestFrom yX1_lowestFrom ∈ th_T := th_in0 4 (by decide +kernel) rfl
theorem wse_X1_markBelow : Cond.selects RX1 yX1_markBelow yX1_markBelow ∈ th_T := th_in0 17 (by decide +kernel) rfl
theorem wse_X1_markCount : Cond.selects RX1 yX1_markCount yX1_markCount ∈ th_T := th_in4 26 (by decide +kernel) rfl
theorem wse_X1_offerOf : Cond.selects RX1 yX1_offerOf yX1_offerOf ∈ th_T := th_in2 155 (by decide +kernel) rfl
theorem wse_X1_overbooked : Cond.selects RX1 yX1_overbooked yX1_overbooked ∈ th_T := th_in3 148 (by decide +kernel) rfl
theorem wse_X1_reroute : Cond.selects RX1 yX1_reroute yX1_reroute ∈ th_T := th_in2 112 (by decide +kernel) rfl
theorem wse_X1_send : Cond.selects RX1 yX1_send yX1_send ∈ th_T := th_in2 199 (by decide +kernel) rfl
theorem wse_X1_takeIn : Cond.selects RX1 yX1_takeIn yX1_takeIn ∈ th_T := th_in2 37 (by decide +kernel) rfl
theorem wse_X1_tell : Cond.selects RX1 yX1_tell yX1_tell ∈ th_T := th_in0 9 (by decide +kernel) rfl
theorem wse_X1_tellAhead : Cond.selects RX1 yX1_tellAhead yX1_tellAhead ∈ th_T := th_in0 7 (by decide +kernel) rfl
theorem wse_X1_tellBehind : Cond.selects RX1 yX1_tellBehind yX1_tellBehind ∈ th_T := th_in0 11 (by decide +kernel) rfl
theorem wse_X1_underWay : Cond.selects RX1 yX1_underWay yX1_underWay ∈ th_T := th_in4 31 (by decide +kernel) rfl
theorem wse_X2_below : Cond.selects RX2 yX2_below yX2_below ∈ th_T := th_in3 83 (by decide +kernel) rfl
theorem wse_X2_fix : Cond.selects RX2 yX2_fix yX2_fix ∈ th_T := th_in0 16 (by decide +kernel) rfl
theorem wse_X2_fixedBy : Cond.selects RX2 yX2_fixedBy yX2_fixedBy ∈ th_T := th_in0 15 (by decide +kernel) rfl
theorem wse_X2_fullnessOf : Cond.selects RX2 yX2_fullnessOf yX2_fullnessOf ∈ th_T := th_in3 92 (by decide +kernel) rfl
theorem wse_X2_greatestLevel : Cond.selects RX2 yX2_greatestLevel yX2_greatestLevel ∈ th_T := th_in3 66 (by decide +kernel) rfl
theorem wse_X2_leastLevel : Cond.selects RX2 yX2_leastLevel yX2_leastLevel ∈ th_T := th_in3 62 (by decide +kernel) rfl
theorem wse_X2_leftOf : Cond.selects RX2 yX2_leftOf yX2_leftOf ∈ th_T := th_in3 48 (by decide +kernel) rfl
theorem wse_X2_linksAt : Cond.selects RX2 yX2_linksAt yX2_linksAt ∈ th_T := th_in0 14 (by decide +kernel) rfl
theorem wse_X2_nextSurface : Cond.selects RX2 yX2_nextSurface yX2_nextSurface ∈ th_T := th_in0 13 (by decide +kernel) rfl
theorem wse_X2_rankOf : Cond.selects RX2 yX2_rankOf yX2_rankOf ∈ th_T := th_in3 79 (by decide +kernel) rfl
theorem wse_X2_rateOf : Cond.selects RX2 yX2_rateOf yX2_rateOf ∈ th_T := th_in3 102 (by decide +kernel) rfl
theorem wse_X2_ratesOf : Cond.selects RX2 yX2_ratesOf yX2_ratesOf ∈ th_T := th_in3 43 (by decide +kernel) rfl
theorem wse_X2_rise : Cond.selects RX2 yX2_rise yX2_rise ∈ th_T := th_in3 14 (by decide +kernel) rfl
theorem wse_X2_witnessedBy : Cond.selects RX2 yX2_witnessedBy yX2_witnessedBy ∈ th_T := th_in3 53 (by decide +kernel) rfl
theorem wse_X3_blow : Cond.selects RX3 yX3_blow yX3_blow ∈ th_T := th_in0 22 (by decide +kernel) rfl
theorem wse_X3_farFromFair : Cond.selects RX3 yX3_farFromFair yX3_farFromFair ∈ th_T := th_in0 18 (by decide +kernel) rfl
theorem wse_X3_newSheet : Cond.selects RX3 yX3_newSheet yX3_newSheet ∈ th_T := th_in0 19 (by decide +kernel) rfl
theorem wse_X3_otherLevels : Cond.selects RX3 yX3_otherLevels yX3_otherLevels ∈ th_T := th_in0 20 (by decide +kernel) rfl
theorem wse_X3_refuse : Cond.selects RX3 yX3_refuse yX3_refuse ∈ th_T := th_in0 0 (by decide +kernel) rfl
theorem wse_X3_someoneComes : Cond.selects RX3 yX3_someoneComes yX3_someoneComes ∈ th_T := th_in0 23 (by decide +kernel) rfl
theorem wse_X3_someoneGoes : Cond.selects RX3 yX3_someoneGoes yX3_someoneGoes ∈ th_T := th_in0 24 (by decide +kernel) rfl
theorem wse_X3_whyNotRoute : Cond.selects RX3 yX3_whyNotRoute yX3_whyNotRoute ∈ th_T := th_in0 3 (by decide +kernel) rfl
theorem wse_X3_widen : Cond.selects RX3 yX3_widen yX3_widen ∈ th_T := th_in0 21 (by decide +kernel) rfl
theorem wse_X4_advertises : Cond.selects RX4 yX4_advertises yX4_advertises ∈ th_T := th_in0 43 (by decide +kernel) rfl
theorem wse_X4_allRates : Cond.selects RX4 yX4_allRates yX4_allRates ∈ th_T := th_in0 59 (by decide +kernel) rfl
theorem wse_X4_backTo : Cond.selects RX4 yX4_backTo yX4_backTo ∈ th_T := th_in0 47 (by decide +kernel) rfl
theorem wse_X4_bookedOf : Cond.selects RX4 yX4_bookedOf yX4_bookedOf ∈ th_T := th_in0 63 (by decide +kernel) rfl
theorem wse_X4_bound : Cond.selects RX4 yX4_bound yX4_bound ∈ th_T := th_in0 27 (by decide +kernel) rfl
theorem wse_X4_comesByChance : Cond.selects RX4 yX4_comesByChance yX4_comesByChance ∈ th_T := th_in0 70 (by decide +kernel) rfl
theorem wse_X4_draw : Cond.selects RX4 yX4_draw yX4_draw ∈ th_T := th_in0 69 (by decide +kernel) rfl
theorem wse_X4_elsewhere : Cond.selects RX4 yX4_elsewhere yX4_elsewhere ∈ th_T := th_in0 45 (by decide +kernel) rfl
theorem wse_X4_endThought : Cond.selects RX4 yX4_endThought yX4_endThought ∈ th_T := th_in0 66 (by decide +kernel) rfl
theorem wse_X4_fairRate : Cond.selects RX4 yX4_fairRate yX4_fairRate ∈ th_T := th_in0 56 (by decide +kernel) rfl
theorem wse_X4_fix : Cond.selects RX4 yX4_fix yX4_fix ∈ th_T := th_in0 55 (by decide +kernel) rfl
theorem wse_X4_flowMany : Cond.selects RX4 yX4_flowMany yX4_flowMany ∈ th_T := th_in0 36 (by decide +kernel) rfl
theorem wse_X4_forth : Cond.selects RX4 yX4_forth yX4_forth ∈ th_T := th_in0 42 (by decide +kernel) rfl
theorem wse_X4_freeNumber : Cond.selects RX4 yX4_freeNumber yX4_freeNumber ∈ th_T := th_in0 30 (by decide +kernel) rfl
theorem wse_X4_goesByChance : Cond.selects RX4 yX4_goesByChance yX4_goesByChance ∈ th_T := th_in0 71 (by decide +kernel) rfl
theorem wse_X4_goesOver : Cond.selects RX4 yX4_goesOver yX4_goesOver ∈ th_T := th_in0 28 (by decide +kernel) rfl
theorem wse_X4_hasFlows : Cond.selects RX4 yX4_hasFlows yX4_hasFlows ∈ th_T := th_in0 60 (by decide +kernel) rfl
theorem wse_X4_heldMany : Cond.selects RX4 yX4_heldMany yX4_heldMany ∈ th_T := th_in0 38 (by decide +kernel) rfl
theorem wse_X4_isBound : Cond.selects RX4 yX4_isBound yX4_isBound ∈ th_T := th_in0 37 (by decide +kernel) rfl
theorem wse_X4_isFlow : Cond.selects RX4 yX4_isFlow yX4_isFlow ∈ th_T := th_in0 35 (by decide +kernel) rfl
theorem wse_X4_isOpen : Cond.selects RX4 yX4_isOpen yX4_isOpen ∈ th_T := th_in0 52 (by decide +kernel) rfl
theorem wse_X4_isThere : Cond.selects RX4 yX4_isThere yX4_isThere ∈ th_T := th_in0 50 (by decide +kernel) rfl
theorem wse_X4_knowsNothing : Cond.selects RX4 yX4_knowsNothing yX4_knowsNothing ∈ th_T := th_in0 34 (by decide +kernel) rfl
theorem wse_X4_lay : Cond.selects RX4 yX4_lay yX4_lay ∈ th_T := th_in0 33 (by decide +kernel) rfl
theorem wse_X4_layFair : Cond.selects RX4 yX4_layFair yX4_layFair ∈ th_T := th_in0 51 (by decide +kernel) rfl
theorem wse_X4_leastLevel : Cond.selects RX4 yX4_leastLevel yX4_leastLevel ∈ th_T := th_in0 58 (by decide +kernel) rfl
theorem wse_X4_leftOf : Cond.selects RX4 yX4_leftOf yX4_leftOf ∈ th_T := th_in0 61 (by decide +kernel) rfl
theorem wse_X4_linksWithFlows : Cond.selects RX4 yX4_linksWithFlows yX4_linksWithFlows ∈ th_T := th_in0 72 (by decide +kernel) rfl
theorem wse_X4_marksAll : Cond.selects RX4 yX4_marksAll yX4_marksAll ∈ th_T := th_in0 73 (by decide +kernel) rfl
theorem wse_X4_namedBy : Cond.selects RX4 yX4_namedBy yX4_namedBy ∈ th_T := th_in0 32 (by decide +kernel) rfl
theorem wse_X4_nextLink : Cond.selects RX4 yX4_nextLink yX4_nextLink ∈ th_T := th_in0 48 (by decide +kernel) rfl
theorem wse_X4_othersBy : Cond.selects RX4 yX4_othersBy yX4_othersBy ∈ th_T := th_in0 68 (by decide +kernel) rfl
theorem wse_X4_overbooked : Cond.selects RX4 yX4_overbooked yX4_overbooked ∈ th_T := th_in0 64 (by decide +kernel) rfl
theorem wse_X4_own : Cond.selects RX4 yX4_own yX4_own ∈ th_T := th_in0 41 (by decide +kernel) rfl
theorem wse_X4_passLevel : Cond.selects RX4 yX4_passLevel yX4_passLevel ∈ th_T := th_in0 62 (by decide +kernel) rfl
theorem wse_X4_rate : Cond.selects RX4 yX4_rate yX4_rate ∈ th_T := th_in0 46 (by decide +kernel) rfl
theorem wse_X4_ratesBy : Cond.selects RX4 yX4_ratesBy yX4_ratesBy ∈ th_T := th_in0 44 (by decide +kernel) rfl
theorem wse_X4_refuse : Cond.selects RX4 yX4_refuse yX4_refuse ∈ th_T := th_in0 26 (by decide +kernel) rfl
theorem wse_X4_reroute : Cond.selects RX4 yX4_reroute yX4_reroute ∈ th_T := th_in0 39 (by decide +kernel) rfl
theorem wse_X4_roomOf : Cond.selects RX4 yX4_roomOf yX4_roomOf ∈ th_T := th_in0 31 (by decide +kernel) rfl
theorem wse_X4_round : Cond.selects RX4 yX4_round yX4_round ∈ th_T := th_in0 49 (by decide +kernel) rfl
theorem wse_X4_sends : Cond.selects RX4 yX4_sends yX4_sends ∈ th_T := th_in0 40 (by decide +kernel) rfl
theorem wse_X4_takeLevels : Cond.selects RX4 yX4_takeLevels yX4_takeLevels ∈ th_T := th_in0 67 (by decide +kernel) rfl
theorem wse_X4_think : Cond.selects RX4 yX4_think yX4_think ∈ th_T := th_in0 65 (by decide +kernel) rfl
theorem wse_X4_tideOf : Cond.selects RX4 yX4_tideOf yX4_tideOf ∈ th_T := th_in0 53 (by decide +kernel) rfl
theorem wse_X4_toBeLost : Cond.selects RX4 yX4_toBeLost yX4_toBeLost ∈ th_T := th_in0 75 (by decide +kernel) rfl
theorem wse_X4_underWay : Cond.selects RX4 yX4_underWay yX4_underWay ∈ th_T := th_in0 74 (by decide +kernel) rfl
theorem wse_X4_usedOf : Cond.selects RX4 yX4_usedOf yX4_usedOf ∈ th_T := th_in0 57 (by decide +kernel) rfl
theorem wse_X4_waterBy : Cond.selects RX4 yX4_waterBy yX4_waterBy ∈ th_T := th_in0 54 (by decide +kernel) rfl
theorem wse_X4_whyNot : Cond.selects RX4 yX4_whyNot yX4_whyNot ∈ th_T := th_in0 29 (by decide +kernel) rfl
theorem wst_J6_bitCount_0f7a4 : Cond.static yJ6_bitCount_0f7a4 ∈ th_T := th_in2 74 (by decide +kernel) rfl
theorem wst_J6_numberOfTrailingZeros_0f7a4 : Cond.static yJ6_numberOfTrailingZeros_0f7a4 ∈ th_T := th_in3 38 (by decide +kernel) rfl
theorem wst_J7_fill_53178 : Cond.static yJ7_fill_53178 ∈ th_T := th_in1 81 (by decide +kernel) rfl
theorem wst_J9_abs_0f7a4 : Cond.static Lib.Math.abs.name ∈ th_T := th_in3 160 (by decide +kernel) rfl
theorem wst_J9_max_7cf53 : Cond.static Lib.Math.max.name ∈ th_T := th_in2 174 (by decide +kernel) rfl
theorem wst_J9_min_7cf53 : Cond.static Lib.Math.min.name ∈ th_T := th_in2 162 (by decide +kernel) rfl
theorem wst_X3_canBe : Cond.static yX3_canBe ∈ th_T := th_in2 84 (by decide +kernel) rfl
theorem wst_X3_commonDivisor : Cond.static yX3_commonDivisor ∈ th_T := th_in3 105 (by decide +kernel) rfl
theorem wst_X3_draw : Cond.static yX3_draw ∈ th_T := th_in4 5 (by decide +kernel) rfl
theorem wst_X3_isAmount : Cond.static yX3_isAmount ∈ th_T := th_in1 227 (by decide +kernel) rfl
theorem wst_X3_isLink : Cond.static yX3_isLink ∈ th_T := th_in1 224 (by decide +kernel) rfl
theorem wst_X3_isPaperRounds : Cond.static yX3_isPaperRounds ∈ th_T := th_in3 167 (by decide +kernel) rfl
theorem wst_X3_isPath : Cond.static yX3_isPath ∈ th_T := th_in2 13 (by decide +kernel) rfl
theorem wst_X3_isWeight : Cond.static yX3_isWeight ∈ th_T := th_in2 16 (by decide +kernel) rfl
theorem wst_X3_whyNoSuchFlow : Cond.static yX3_whyNoSuchFlow ∈ th_T := th_in2 10 (by decide +kernel) rfl
theorem wst_X3_whyNotCome : Cond.static yX3_whyNotCome ∈ th_T := th_in2 7 (by decide +kernel) rfl
theorem wst_X4_areLinks : Cond.static yX4_areLinks ∈ th_T := th_in5 1 (by decide +kernel) rfl
theorem wst_X4_at : Cond.static yX4_at ∈ th_T := th_in4 230 (by decide +kernel) rfl
theorem wst_X4_common : Cond.static yX4_common ∈ th_T := th_in5 229 (by decide +kernel) rfl
theorem wst_X4_copy : Cond.static yX4_copy ∈ th_T := th_in4 202 (by decide +kernel) rfl
theorem wst_X4_in : Cond.static yX4_in ∈ th_T := th_in4 199 (by decide +kernel) rfl
theorem wst_X4_isLink : Cond.static yX4_isLink ∈ th_T := th_in4 213 (by decide +kernel) rfl
theorem wst_X4_lesser : Cond.static yX4_lesser ∈ th_T := th_in5 14 (by decide +kernel) rfl
theorem wst_X4_ones : Cond.static yX4_ones ∈ th_T := th_in5 68 (by decide +kernel) rfl
theorem hd_J6_bitCount_0f7a4 : yJ6_bitCount_0f7a4.cls ≠ "java/lang/invoke/MethodHandle" ∧ yJ6_bitCount_0f7a4.cls ≠ "java/lang/invoke/VarHandle" ∧ (parseMethodDescriptor yJ6_bitCount_0f7a4.desc).map (fun d => d.parameters.length) = some 1 := by decide +kernel
theorem hd_J6_numberOfTrailingZeros_0f7a4 : yJ6_numberOfTrailingZeros_0f7a4.cls ≠ "java/lang/invoke/MethodHandle" ∧ yJ6_numberOfTrailingZeros_0f7a4.cls ≠ "java/lang/invoke/VarHandle" ∧ (parseMethodDescriptor yJ6_numberOfTrailingZeros_0f7a4.desc).map (fun d => d.parameters.length) = some 1 := by decide +kernel
theorem hd_J7_fill_53178 : yJ7_fill_53178.cls ≠ "java/lang/invoke/MethodHandle" ∧ yJ7_fill_53178.cls ≠ "java/lang/invoke/VarHandle" ∧ (parseMethodDescriptor yJ7_fill_53178.desc).map (fun d => d.parameters.length) = some 2 := by decide +kernel
theorem hd_X0_add : yX0_add.cls ≠ "java/lang/invoke/MethodHandle" ∧ yX0_add.cls ≠ "java/lang/invoke/VarHandle" ∧ (parseMethodDescriptor yX0_add.desc).map (fun d => d.parameters.length) = some 5 := by decide +kernel
theorem hd_X0_boundOf : yX0_boundOf.cls ≠ "java/lang/invoke/MethodHandle" ∧ yX0_boundOf.cls ≠ "java/lang/invoke/VarHandle" ∧ (parseMethodDescriptor yX0_boundOf.desc).map (fun d => d.parameters.length) = some 1 := by decide +kernel
theorem hd_X0_byWeight : yX0_byWeight.cls ≠ "java/lang/invoke/MethodHandle" ∧ yX0_byWeight.cls ≠ "java/lang/invoke/VarHandle" ∧ (parseMethodDescriptor yX0_byWeight.desc).map (fun d => d.parameters.length) = some 2 := by decide +kernel
theorem hd_X0_copy : yX0_copy.cls ≠ "java/lang/invoke/MethodHandle" ∧ yX0_copy.cls ≠ "java/lang/invoke/VarHandle" ∧ (parseMethodDescriptor yX0_copy.desc).map (fun d => d.parameters.length) = some 1 := by decide +kernel
theorem hd_X0_flowNamed : yX0_flowNamed.cls ≠ "java/lang/invoke/MethodHandle" ∧ yX0_flowNamed.cls ≠ "java/lang/invoke/VarHandle" ∧ (parseMethodDescriptor yX0_flowNamed.desc).map (fun d => d.parameters.length) = some 1 := by decide +kernel
theorem hd_X0_freeNumber : yX0_freeNumber.cls ≠ "java/lang/invoke/MethodHandle" ∧ yX0_freeNumber.cls ≠ "java/lang/invoke/VarHandle" ∧ (parseMethodDescriptor yX0_freeNumber.desc).map (fun d => d.parameters.length) = some 0 := by decide +kernel
theorem hd_X0_goesOver : yX0_goesOver.cls ≠ "java/lang/invoke/MethodHandle" ∧ yX0_goesOver.cls ≠ "java/lang/invoke/VarHandle" ∧ (parseMethodDescriptor yX0_goesOver.desc).map (fun d => d.parameters.length) = some 2 := by decide +kernel
theorem hd_X0_greatestLevel : yX0_greatestLevel.cls ≠ "java/lang/invoke/MethodHandle" ∧ yX0_greatestLevel.cls ≠ "java/lang/invoke/VarHandle" ∧ (parseMethodDescriptor yX0_greatestLevel.desc).map (fun d => d.parameters.length) = some 2 := by decide +kernel
theorem hd_X0_has : yX0_has.cls ≠ "java/lang/invoke/MethodHandle" ∧ yX0_has.cls ≠ "java/lang/invoke/VarHandle" ∧ (parseMethodDescriptor yX0_has.desc).map (fun d => d.parameters.length) = some 1 := by decide +kernel
theorem hd_X0_hasRoom : yX0_hasRoom.cls ≠ "java/lang/invoke/MethodHandle" ∧ yX0_hasRoom.cls ≠ "java/lang/invoke/VarHandle" ∧ (parseMethodDescriptor yX0_hasRoom.desc).map (fun d => d.parameters.length) = some 2 := by decide +kernel
theorem hd_X0_linksInUse : yX0_linksInUse.cls ≠ "java/lang/invoke/MethodHandle" ∧ yX0_linksInUse.cls ≠ "java/lang/invoke/VarHandle" ∧ (parseMethodDescriptor yX0_linksInUse.desc).map (fun d => d.parameters.length) = some 0 := by decide +kernel
theorem hd_X0_ownOf : yX0_ownOf.cls ≠ "java/lang/invoke/MethodHandle" ∧ yX0_ownOf.cls ≠ "java/lang/invoke/VarHandle" ∧ (parseMethodDescriptor yX0_ownOf.desc).map (fun d => d.parameters.length) = some 1 := by decide +kernel
theorem hd_X0_partOf : yX0_partOf.cls ≠ "java/lang/invoke/MethodHandle" ∧ yX0_partOf.cls ≠ "java/lang/invoke/VarHandle" ∧ (parseMethodDescriptor yX0_partOf.desc).map (fun d => d.parameters.length) = some 2 := by decide +kernel
theorem hd_X0_rateBy : yX0_rateBy.cls ≠ "java/lang/invoke/MethodHandle" ∧ yX0_rateBy.cls ≠ "java/lang/invoke/VarHandle" ∧ (parseMethodDescriptor yX0_rateBy.desc).map (fun d => d.parameters.length) = some 2 := by decide +kernel
theorem hd_X0_remove : yX0_remove.cls ≠ "java/lang/invoke/MethodHandle" ∧ yX0_remove.cls ≠ "java/lang/invoke/VarHandle" ∧ (parseMethodDescriptor yX0_remove.desc).map (fun d => d.parameters.length) = some 1 := by decide +kernel
theorem hd_X0_setCapacity : yX0_setCapacity.cls ≠ "java/lang/invoke/MethodHandle" ∧ yX0_setCapacity.cls ≠ "java/lang/invoke/VarHandle" ∧ (parseMethodDescriptor yX0_setCapacity.desc).map (fun d => d.parameters.length) = some 2 := by decide +kernel
theorem hd_X0_setPart : yX0_setPart.cls ≠ "java/lang/invoke/MethodHandle" ∧ yX0_setPart.cls ≠ "java/lang/invoke/VarHandle" ∧ (parseMethodDescriptor yX0_setPart.desc).map (fun d => d.parameters.length) = some 3 := by decide +kernel
theorem hd_X0_setPath : yX0_setPath.cls ≠ "java/lang/invoke/MethodHandle" ∧ yX0_setPath.cls ≠ "java/lang/invoke/VarHandle" ∧ (parseMethodDescriptor yX0_setPath.desc).map (fun d => d.parameters.length) = some 2 := by decide +kernel
theorem hd_X1_allToLose : yX1_allToLose.cls ≠ "java/lang/invoke/MethodHandle" ∧ yX1_allToLose.cls ≠ "java/lang/invoke/VarHandle" ∧ (parseMethodDescriptor yX1_allToLose.desc).map (fun d => d.parameters.length) = some 0 := by decide +kernel
theorem hd_X1_arriveBack : yX1_arriveBack.cls ≠ "java/lang/invoke/MethodHandle" ∧ yX1_arriveBack.cls ≠ "java/lang/invoke/VarHandle" ∧ (parseMethodDescriptor yX1_arriveBack.desc).map (fun d => d.parameters.length) = some 2 := by decide +kernel
theorem hd_X1_arriveForth : yX1_arriveForth.cls ≠ "java/lang/invoke/MethodHandle" ∧ yX1_arriveForth.cls ≠ "java/lang/invoke/VarHandle" ∧ (parseMethodDescriptor yX1_arriveForth.desc).map (fun d => d.parameters.length) = some 2 := by decide +kernel
theorem hd_X1_bookedAt : yX1_bookedAt.cls ≠ "java/lang/invoke/MethodHandle" ∧ yX1_bookedAt.cls ≠ "java/lang/invoke/VarHandle" ∧ (parseMethodDescriptor yX1_bookedAt.desc).map (fun d => d.parameters.length) = some 1 := by decide +kernel
theorem hd_X1_copy : yX1_copy.cls ≠ "java/lang/invoke/MethodHandle" ∧ yX1_copy.cls ≠ "java/lang/invoke/VarHandle" ∧ (parseMethodDescriptor yX1_copy.desc).map (fun d => d.parameters.length) = some 1 := by decide +kernel
theorem hd_X1_elsewhere : yX1_elsewhere.cls ≠ "java/lang/invoke/MethodHandle" ∧ yX1_elsewhere.cls ≠ "java/lang/invoke/VarHandle" ∧ (parseMethodDescriptor yX1_elsewhere.desc).map (fun d => d.parameters.length) = some 2 := by decide +kernel
theorem hd_X1_findMarks : yX1_findMarks.cls ≠ "java/lang/invoke/MethodHandle" ∧ yX1_findMarks.cls ≠ "java/lang/invoke/VarHandle" ∧ (parseMethodDescriptor yX1_findMarks.desc).map (fun d => d.parameters.length) = some 2 := by decide +kernel
theorem hd_X1_forgetAll : yX1_forgetAll.cls ≠ "java/lang/invoke/MethodHandle" ∧ yX1_forgetAll.cls ≠ "java/lang/invoke/VarHandle" ∧ (parseMethodDescriptor yX1_forgetAll.desc).map (fun d => d.parameters.length) = some 0 := by decide +kernel
theorem hd_X1_forgetAt : yX1_forgetAt.cls ≠ "java/lang/invoke/MethodHandle" ∧ yX1_forgetAt.cls ≠ "java/lang/invoke/VarHandle" ∧ (parseMethodDescriptor yX1_forgetAt.desc).map (fun d => d.parameters.length) = some 2 := by decide +kernel
theorem hd_X1_forgetFlow : yX1_forgetFlow.cls ≠ "java/lang/invoke/MethodHandle" ∧ yX1_forgetFlow.cls ≠ "java/lang/invoke/VarHandle" ∧ (parseMethodDescriptor yX1_forgetFlow.desc).map (fun d => d.parameters.length) = some 1 := by decide +kernel
theorem hd_X1_goOn : yX1_goOn.cls ≠ "java/lang/invoke/MethodHandle" ∧ yX1_goOn.cls ≠ "java/lang/invoke/VarHandle" ∧ (parseMethodDescriptor yX1_goOn.desc).map (fun d => d.parameters.length) = some 1 := by decide +kernel
theorem hd_X1_goRound : yX1_goRound.cls ≠ "java/lang/invoke/MethodHandle" ∧ yX1_goRound.cls ≠ "java/lang/invoke/VarHandle" ∧ (parseMethodDescriptor yX1_goRound.desc).map (fun d => d.parameters.length) = some 0 := by decide +kernel
theorem hd_X1_highestBelow : yX1_highestBelow.cls ≠ "java/lang/invoke/MethodHandle" ∧ yX1_highestBelow.cls ≠ "java/lang/invoke/VarHandle" ∧ (parseMethodDescriptor yX1_highestBelow.desc).map (fun d => d.parameters.length) = some 2 := by decide +kernel
theorem hd_X1_isHeld : yX1_isHeld.cls ≠ "java/lang/invoke/MethodHandle" ∧ yX1_isHeld.cls ≠ "java/lang/invoke/VarHandle" ∧ (parseMethodDescriptor yX1_isHeld.desc).map (fun d => d.parameters.length) = some 1 := by decide +kernel
theorem hd_X1_isLostAt : yX1_isLostAt.cls ≠ "java/lang/invoke/MethodHandle" ∧ yX1_isLostAt.cls ≠ "java/lang/invoke/VarHandle" ∧ (parseMethodDescriptor yX1_isLostAt.desc).map (fun d => d.parameters.length) = some 1 := by decide +kernel
theorem hd_X1_isMarked : yX1_isMarked.cls ≠ "java/lang/invoke/MethodHandle" ∧ yX1_isMarked.cls ≠ "java/lang/invoke/VarHandle" ∧ (parseMethodDescriptor yX1_isMarked.desc).map (fun d => d.parameters.length) = some 2 := by decide +kernel
theorem hd_X1_letGo : yX1_letGo.cls ≠ "java/lang/invoke/MethodHandle" ∧ yX1_letGo.cls ≠ "java/lang/invoke/VarHandle" ∧ (parseMethodDescriptor yX1_letGo.desc).map (fun d => d.parameters.length) = some 1 := by decide +kernel
theorem hd_X1_lowestFrom : yX1_lowestFrom.cls ≠ "java/lang/invoke/MethodHandle" ∧ yX1_lowestFrom.cls ≠ "java/lang/invoke/VarHandle" ∧ (parseMethodDescriptor yX1_lowestFrom.desc).map (fun d => d.parameters.length) = some 2 := by decide +kernel
theorem hd_X1_markBelow : yX1_markBelow.cls ≠ "java/lang/invoke/MethodHandle" ∧ yX1_markBelow.cls ≠ "java/lang/invoke/VarHandle" ∧ (parseMethodDescriptor yX1_markBelow.desc).map (fun d => d.parameters.length) = some 2 := by decide +kernel
theorem hd_X1_markCount : yX1_markCount.cls ≠ "java/lang/invoke/MethodHandle" ∧ yX1_markCount.cls ≠ "java/lang/invoke/VarHandle" ∧ (parseMethodDescriptor yX1_markCount.desc).map (fun d => d.parameters.length) = some 0 := by decide +kernel
theorem hd_X1_offerOf : yX1_offerOf.cls ≠ "java/lang/invoke/MethodHandle" ∧ yX1_offerOf.cls ≠ "java/lang/invoke/VarHandle" ∧ (parseMethodDescriptor yX1_offerOf.desc).map (fun d => d.parameters.length) = some 1 := by decide +kernel
theorem hd_X1_overbooked : yX1_overbooked.cls ≠ "java/lang/invoke/MethodHandle" ∧ yX1_overbooked.cls ≠ "java/lang/invoke/VarHandle" ∧ (parseMethodDescriptor yX1_overbooked.desc).map (fun d => d.parameters.length) = some 0 := by decide +kernel
theorem hd_X1_reroute : yX1_reroute.cls ≠ "java/lang/invoke/MethodHandle" ∧ yX1_reroute.cls ≠ "java/lang/invoke/VarHandle" ∧ (parseMethodDescriptor yX1_reroute.desc).map (fun d => d.parameters.length) = some 2 := by decide +kernel
theorem hd_X1_send : yX1_send.cls ≠ "java/lang/invoke/MethodHandle" ∧ yX1_send.cls ≠ "java/lang/invoke/VarHandle" ∧ (parseMethodDescriptor yX1_send.desc).map (fun d => d.parameters.length) = some 1 := by decide +kernel
theorem hd_X1_takeIn : yX1_takeIn.cls ≠ "java/lang/invoke/MethodHandle" ∧ yX1_takeIn.cls ≠ "java/lang/invoke/VarHandle" ∧ (parseMethodDescriptor yX1_takeIn.desc).map (fun d => d.parameters.length) = some 5 := by decide +kernel
theorem hd_X1_tell : yX1_tell.cls ≠ "java/lang/invoke/MethodHandle" ∧ yX1_tell.cls ≠ "java/lang/invoke/VarHandle" ∧ (parseMethodDescriptor yX1_tell.desc).map (fun d => d.parameters.length) = some 2 := by decide +kernel
theorem hd_X1_tellAhead : yX1_tellAhead.cls ≠ "java/lang/invoke/MethodHandle" ∧ yX1_tellAhead.cls ≠ "java/lang/invoke/VarHandle" ∧ (parseMethodDescriptor yX1_tellAhead.desc).map (fun d => d.parameters.length) = some 3 := by decide +kernel
theorem hd_X1_tellBehind : yX1_tellBehind.cls ≠ "java/lang/invoke/MethodHandle" ∧ yX1_tellBehind.cls ≠ "java/lang/invoke/VarHandle" ∧ (parseMethodDescriptor yX1_tellBehind.desc).map (fun d => d.parameters.length) = some 3 := by decide +kernel
theorem hd_X1_underWay : yX1_underWay.cls ≠ "java/lang/invoke/MethodHandle" ∧ yX1_underWay.cls ≠ "java/lang/invoke/VarHandle" ∧ (parseMethodDescriptor yX1_underWay.desc).map (fun d => d.parameters.length) = some 0 := by decide +kernel
theorem hd_X2_below : yX2_below.cls ≠ "java/lang/invoke/MethodHandle" ∧ yX2_below.cls ≠ "java/lang/invoke/VarHandle" ∧ (parseMethodDescriptor yX2_below.desc).map (fun d => d.parameters.length) = some 2 := by decide +kernel
theorem hd_X2_fix : yX2_fix.cls ≠ "java/lang/invoke/MethodHandle" ∧ yX2_fix.cls ≠ "java/lang/invoke/VarHandle" ∧ (parseMethodDescriptor yX2_fix.desc).map (fun d => d.parameters.length) = some 2 := by decide +kernel
theorem hd_X2_fixedBy : yX2_fixedBy.cls ≠ "java/lang/invoke/MethodHandle" ∧ yX2_fixedBy.cls ≠ "java/lang/invoke/VarHandle" ∧ (parseMethodDescriptor yX2_fixedBy.desc).map (fun d => d.parameters.length) = some 3 := by decide +kernel
theorem hd_X2_fullnessOf : yX2_fullnessOf.cls ≠ "java/lang/invoke/MethodHandle" ∧ yX2_fullnessOf.cls ≠ "java/lang/invoke/VarHandle" ∧ (parseMethodDescriptor yX2_fullnessOf.desc).map (fun d => d.parameters.length) = some 1 := by decide +kernel
theorem hd_X2_greatestLevel : yX2_greatestLevel.cls ≠ "java/lang/invoke/MethodHandle" ∧ yX2_greatestLevel.cls ≠ "java/lang/invoke/VarHandle" ∧ (parseMethodDescriptor yX2_greatestLevel.desc).map (fun d => d.parameters.length) = some 0 := by decide +kernel
theorem hd_X2_leastLevel : yX2_leastLevel.cls ≠ "java/lang/invoke/MethodHandle" ∧ yX2_leastLevel.cls ≠ "java/lang/invoke/VarHandle" ∧ (parseMethodDescriptor yX2_leastLevel.desc).map (fun d => d.parameters.length) = some 0 := by decide +kernel
theorem hd_X2_leftOf : yX2_leftOf.cls ≠ "java/lang/invoke/MethodHandle" ∧ yX2_leftOf.cls ≠ "java/lang/invoke/VarHandle" ∧ (parseMethodDescriptor yX2_leftOf.desc).map (fun d => d.parameters.length) = some 1 := by decide +kernel
theorem hd_X2_linksAt : yX2_linksAt.cls ≠ "java/lang/invoke/MethodHandle" ∧ yX2_linksAt.cls ≠ "java/lang/invoke/VarHandle" ∧ (parseMethodDescriptor yX2_linksAt.desc).map (fun d => d.parameters.length) = some 1 := by decide +kernel
theorem hd_X2_nextSurface : yX2_nextSurface.cls ≠ "java/lang/invoke/MethodHandle" ∧ yX2_nextSurface.cls ≠ "java/lang/invoke/VarHandle" ∧ (parseMethodDescriptor yX2_nextSurface.desc).map (fun d => d.parameters.length) = some 1 := by decide +kernel
theorem hd_X2_rankOf : yX2_rankOf.cls ≠ "java/lang/invoke/MethodHandle" ∧ yX2_rankOf.cls ≠ "java/lang/invoke/VarHandle" ∧ (parseMethodDescriptor yX2_rankOf.desc).map (fun d => d.parameters.length) = some 1 := by decide +kernel
theorem hd_X2_rateOf : yX2_rateOf.cls ≠ "java/lang/invoke/MethodHandle" ∧ yX2_rateOf.cls ≠ "java/lang/invoke/VarHandle" ∧ (parseMethodDescriptor yX2_rateOf.desc).map (fun d => d.parameters.length) = some 1 := by decide +kernel
theorem hd_X2_ratesOf : yX2_ratesOf.cls ≠ "java/lang/invoke/MethodHandle" ∧ yX2_ratesOf.cls ≠ "java/lang/invoke/VarHandle" ∧ (parseMethodDescriptor yX2_ratesOf.desc).map (fun d => d.parameters.length) = some 1 := by decide +kernel
theorem hd_X2_rise : yX2_rise.cls ≠ "java/lang/invoke/MethodHandle" ∧ yX2_rise.cls ≠ "java/lang/invoke/VarHandle" ∧ (parseMethodDescriptor yX2_rise.desc).map (fun d => d.parameters.length) = some 0 := by decide +kernel
theorem hd_X2_witnessedBy : yX2_witnessedBy.cls ≠ "java/lang/invoke/MethodHandle" ∧ yX2_witnessedBy.cls ≠ "java/lang/invoke/VarHandle" ∧ (parseMethodDescriptor yX2_witnessedBy.desc).map (fun d => d.parameters.length) = some 1 := by decide +kernel
theorem hd_X3_blow : yX3_blow.cls ≠ "java/lang/invoke/MethodHandle" ∧ yX3_blow.cls ≠ "java/lang/invoke/VarHandle" ∧ (parseMethodDescriptor yX3_blow.desc).map (fun d => d.parameters.length) = some 1 := by decide +kernel
theorem hd_X3_canBe : yX3_canBe.cls ≠ "java/lang/invoke/MethodHandle" ∧ yX3_canBe.cls ≠ "java/lang/invoke/VarHandle" ∧ (parseMethodDescriptor yX3_canBe.desc).map (fun d => d.parameters.length) = some 2 := by decide +kernel
theorem hd_X3_commonDivisor : yX3_commonDivisor.cls ≠ "java/lang/invoke/MethodHandle" ∧ yX3_commonDivisor.cls ≠ "java/lang/invoke/VarHandle" ∧ (parseMethodDescriptor yX3_commonDivisor.desc).map (fun d => d.parameters.length) = some 2 := by decide +kernel
theorem hd_X3_draw : yX3_draw.cls ≠ "java/lang/invoke/MethodHandle" ∧ yX3_draw.cls ≠ "java/lang/invoke/VarHandle" ∧ (parseMethodDescriptor yX3_draw.desc).map (fun d => d.parameters.length) = some 1 := by decide +kernel
theorem hd_X3_farFromFair : yX3_farFromFair.cls ≠ "java/lang/invoke/MethodHandle" ∧ yX3_farFromFair.cls ≠ "java/lang/invoke/VarHandle" ∧ (parseMethodDescriptor yX3_farFromFair.desc).map (fun d => d.parameters.length) = some 1 := by decide +kernel
theorem hd_X3_isAmount : yX3_isAmount.cls ≠ "java/lang/invoke/MethodHandle" ∧ yX3_isAmount.cls ≠ "java/lang/invoke/VarHandle" ∧ (parseMethodDescriptor yX3_isAmount.desc).map (fun d => d.parameters.length) = some 1 := by decide +kernel
theorem hd_X3_isLink : yX3_isLink.cls ≠ "java/lang/invoke/MethodHandle" ∧ yX3_isLink.cls ≠ "java/lang/invoke/VarHandle" ∧ (parseMethodDescriptor yX3_isLink.desc).map (fun d => d.parameters.length) = some 1 := by decide +kernel
theorem hd_X3_isPaperRounds : yX3_isPaperRounds.cls ≠ "java/lang/invoke/MethodHandle" ∧ yX3_isPaperRounds.cls ≠ "java/lang/invoke/VarHandle" ∧ (parseMethodDescriptor yX3_isPaperRounds.desc).map (fun d => d.parameters.length) = some 1 := by decide +kernel
theorem hd_X3_isPath : yX3_isPath.cls ≠ "java/lang/invoke/MethodHandle" ∧ yX3_isPath.cls ≠ "java/lang/invoke/VarHandle" ∧ (parseMethodDescriptor yX3_isPath.desc).map (fun d => d.parameters.length) = some 1 := by decide +kernel
theorem hd_X3_isWeight : yX3_isWeight.cls ≠ "java/lang/invoke/MethodHandle" ∧ yX3_isWeight.cls ≠ "java/lang/invoke/VarHandle" ∧ (parseMethodDescriptor yX3_isWeight.desc).map (fun d => d.parameters.length) = some 1 := by decide +kernel
theorem hd_X3_newSheet : yX3_newSheet.cls ≠ "java/lang/invoke/MethodHandle" ∧ yX3_newSheet.cls ≠ "java/lang/invoke/VarHandle" ∧ (parseMethodDescriptor yX3_newSheet.desc).map (fun d => d.parameters.length) = some 0 := by decide +kernel
theorem hd_X3_otherLevels : yX3_otherLevels.cls ≠ "java/lang/invoke/MethodHandle" ∧ yX3_otherLevels.cls ≠ "java/lang/invoke/VarHandle" ∧ (parseMethodDescriptor yX3_otherLevels.desc).map (fun d => d.parameters.length) = some 0 := by decide +kernel
theorem hd_X3_refuse : yX3_refuse.cls ≠ "java/lang/invoke/MethodHandle" ∧ yX3_refuse.cls ≠ "java/lang/invoke/VarHandle" ∧ (parseMethodDescriptor yX3_refuse.desc).map (fun d => d.parameters.length) = some 1 := by decide +kernel
theorem hd_X3_someoneComes : yX3_someoneComes.cls ≠ "java/lang/invoke/MethodHandle" ∧ yX3_someoneComes.cls ≠ "java/lang/invoke/VarHandle" ∧ (parseMethodDescriptor yX3_someoneComes.desc).map (fun d => d.parameters.length) = some 1 := by decide +kernel
theorem hd_X3_someoneGoes : yX3_someoneGoes.cls ≠ "java/lang/invoke/MethodHandle" ∧ yX3_someoneGoes.cls ≠ "java/lang/invoke/VarHandle" ∧ (parseMethodDescriptor yX3_someoneGoes.desc).map (fun d => d.parameters.length) = some 1 := by decide +kernel
theorem hd_X3_whyNoSuchFlow : yX3_whyNoSuchFlow.cls ≠ "java/lang/invoke/MethodHandle" ∧ yX3_whyNoSuchFlow.cls ≠ "java/lang/invoke/VarHandle" ∧ (parseMethodDescriptor yX3_whyNoSuchFlow.desc).map (fun d => d.parameters.length) = some 5 := by decide +kernel
theorem hd_X3_whyNotCome : yX3_whyNotCome.cls ≠ "java/lang/invoke/MethodHandle" ∧ yX3_whyNotCome.cls ≠ "java/lang/invoke/VarHandle" ∧ (parseMethodDescriptor yX3_whyNotCome.desc).map (fun d => d.parameters.length) = some 6 := by decide +kernel
theorem hd_X3_whyNotRoute : yX3_whyNotRoute.cls ≠ "java/lang/invoke/MethodHandle" ∧ yX3_whyNotRoute.cls ≠ "java/lang/invoke/VarHandle" ∧ (parseMethodDescriptor yX3_whyNotRoute.desc).map (fun d => d.parameters.length) = some 2 := by decide +kernel
theorem hd_X3_widen : yX3_widen.cls ≠ "java/lang/invoke/MethodHandle" ∧ yX3_widen.cls ≠ "java/lang/invoke/VarHandle" ∧ (parseMethodDescriptor yX3_widen.desc).map (fun d => d.parameters.length) = some 2 := by decide +kernel
theorem hd_X4_advertises : yX4_advertises.cls ≠ "java/lang/invoke/MethodHandle" ∧ yX4_advertises.cls ≠ "java/lang/invoke/VarHandle" ∧ (parseMethodDescriptor yX4_advertises.desc).map (fun d => d.parameters.length) = some 1 := by decide +kernel
theorem hd_X4_allRates : yX4_allRates.cls ≠ "java/lang/invoke/MethodHandle" ∧ yX4_allRates.cls ≠ "java/lang/invoke/VarHandle" ∧ (parseMethodDescriptor yX4_allRates.desc).map (fun d => d.parameters.length) = some 0 := by decide +kernel
theorem hd_X4_areLinks : yX4_areLinks.cls ≠ "java/lang/invoke/MethodHandle" ∧ yX4_areLinks.cls ≠ "java/lang/invoke/VarHandle" ∧ (parseMethodDescriptor yX4_areLinks.desc).map (fun d => d.parameters.length) = some 1 := by decide +kernel
theorem hd_X4_at : yX4_at.cls ≠ "java/lang/invoke/MethodHandle" ∧ yX4_at.cls ≠ "java/lang/invoke/VarHandle" ∧ (parseMethodDescriptor yX4_at.desc).map (fun d => d.parameters.length) = some 1 := by decide +kernel
theorem hd_X4_backTo : yX4_backTo.cls ≠ "java/lang/invoke/MethodHandle" ∧ yX4_backTo.cls ≠ "java/lang/invoke/VarHandle" ∧ (parseMethodDescriptor yX4_backTo.desc).map (fun d => d.parameters.length) = some 3 := by decide +kernel
theorem hd_X4_bookedOf : yX4_bookedOf.cls ≠ "java/lang/invoke/MethodHandle" ∧ yX4_bookedOf.cls ≠ "java/lang/invoke/VarHandle" ∧ (parseMethodDescriptor yX4_bookedOf.desc).map (fun d => d.parameters.length) = some 1 := by decide +kernel
theorem hd_X4_bound : yX4_bound.cls ≠ "java/lang/invoke/MethodHandle" ∧ yX4_bound.cls ≠ "java/lang/invoke/VarHandle" ∧ (parseMethodDescriptor yX4_bound.desc).map (fun d => d.parameters.length) = some 1 := by decide +kernel
theorem hd_X4_comesByChance : yX4_comesByChance.cls ≠ "java/lang/invoke/MethodHandle" ∧ yX4_comesByChance.cls ≠ "java/lang/invoke/VarHandle" ∧ (parseMethodDescriptor yX4_comesByChance.desc).map (fun d => d.parameters.length) = some 0 := by decide +kernel
theorem hd_X4_common : yX4_common.cls ≠ "java/lang/invoke/MethodHandle" ∧ yX4_common.cls ≠ "java/lang/invoke/VarHandle" ∧ (parseMethodDescriptor yX4_common.desc).map (fun d => d.parameters.length) = some 2 := by decide +kernel
theorem hd_X4_copy : yX4_copy.cls ≠ "java/lang/invoke/MethodHandle" ∧ yX4_copy.cls ≠ "java/lang/invoke/VarHandle" ∧ (parseMethodDescriptor yX4_copy.desc).map (fun d => d.parameters.length) = some 4 := by decide +kernel
theorem hd_X4_draw : yX4_draw.cls ≠ "java/lang/invoke/MethodHandle" ∧ yX4_draw.cls ≠ "java/lang/invoke/VarHandle" ∧ (parseMethodDescriptor yX4_draw.desc).map (fun d => d.parameters.length) = some 0 := by decide +kernel
theorem hd_X4_elsewhere : yX4_elsewhere.cls ≠ "java/lang/invoke/MethodHandle" ∧ yX4_elsewhere.cls ≠ "java/lang/invoke/VarHandle" ∧ (parseMethodDescriptor yX4_elsewhere.desc).map (fun d => d.parameters.length) = some 2 := by decide +kernel
theorem hd_X4_endThought : yX4_endThought.cls ≠ "java/lang/invoke/MethodHandle" ∧ yX4_endThought.cls ≠ "java/lang/invoke/VarHandle" ∧ (parseMethodDescriptor yX4_endThought.desc).map (fun d => d.parameters.length) = some 0 := by decide +kernel
theorem hd_X4_fairRate : yX4_fairRate.cls ≠ "java/lang/invoke/MethodHandle" ∧ yX4_fairRate.cls ≠ "java/lang/invoke/VarHandle" ∧ (parseMethodDescriptor yX4_fairRate.desc).map (fun d => d.parameters.length) = some 1 := by decide +kernel
theorem hd_X4_fix : yX4_fix.cls ≠ "java/lang/invoke/MethodHandle" ∧ yX4_fix.cls ≠ "java/lang/invoke/VarHandle" ∧ (parseMethodDescriptor yX4_fix.desc).map (fun d => d.parameters.length) = some 1 := by decide +kernel
theorem hd_X4_flowMany : yX4_flowMany.cls ≠ "java/lang/invoke/MethodHandle" ∧ yX4_flowMany.cls ≠ "java/lang/invoke/VarHandle" ∧ (parseMethodDescriptor yX4_flowMany.desc).map (fun d => d.parameters.length) = some 0 := by decide +kernel
theorem hd_X4_forth : yX4_forth.cls ≠ "java/lang/invoke/MethodHandle" ∧ yX4_forth.cls ≠ "java/lang/invoke/VarHandle" ∧ (parseMethodDescriptor yX4_forth.desc).map (fun d => d.parameters.length) = some 3 := by decide +kernel
theorem hd_X4_freeNumber : yX4_freeNumber.cls ≠ "java/lang/invoke/MethodHandle" ∧ yX4_freeNumber.cls ≠ "java/lang/invoke/VarHandle" ∧ (parseMethodDescriptor yX4_freeNumber.desc).map (fun d => d.parameters.length) = some 0 := by decide +kernel
theorem hd_X4_goesByChance : yX4_goesByChance.cls ≠ "java/lang/invoke/MethodHandle" ∧ yX4_goesByChance.cls ≠ "java/lang/invoke/VarHandle" ∧ (parseMethodDescriptor yX4_goesByChance.desc).map (fun d => d.parameters.length) = some 0 := by decide +kernel
theorem hd_X4_goesOver : yX4_goesOver.cls ≠ "java/lang/invoke/MethodHandle" ∧ yX4_goesOver.cls ≠ "java/lang/invoke/VarHandle" ∧ (parseMethodDescriptor yX4_goesOver.desc).map (fun d => d.parameters.length) = some 2 := by decide +kernel
theorem hd_X4_hasFlows : yX4_hasFlows.cls ≠ "java/lang/invoke/MethodHandle" ∧ yX4_hasFlows.cls ≠ "java/lang/invoke/VarHandle" ∧ (parseMethodDescriptor yX4_hasFlows.desc).map (fun d => d.parameters.length) = some 1 := by decide +kernel
theorem hd_X4_heldMany : yX4_heldMany.cls ≠ "java/lang/invoke/MethodHandle" ∧ yX4_heldMany.cls ≠ "java/lang/invoke/VarHandle" ∧ (parseMethodDescriptor yX4_heldMany.desc).map (fun d => d.parameters.length) = some 0 := by decide +kernel
theorem hd_X4_in : yX4_in.cls ≠ "java/lang/invoke/MethodHandle" ∧ yX4_in.cls ≠ "java/lang/invoke/VarHandle" ∧ (parseMethodDescriptor yX4_in.desc).map (fun d => d.parameters.length) = some 3 := by decide +kernel
theorem hd_X4_isBound : yX4_isBound.cls ≠ "java/lang/invoke/MethodHandle" ∧ yX4_isBound.cls ≠ "java/lang/invoke/VarHandle" ∧ (parseMethodDescriptor yX4_isBound.desc).map (fun d => d.parameters.length) = some 0 := by decide +kernel
theorem hd_X4_isFlow : yX4_isFlow.cls ≠ "java/lang/invoke/MethodHandle" ∧ yX4_isFlow.cls ≠ "java/lang/invoke/VarHandle" ∧ (parseMethodDescriptor yX4_isFlow.desc).map (fun d => d.parameters.length) = some 1 := by decide +kernel
theorem hd_X4_isLink : yX4_isLink.cls ≠ "java/lang/invoke/MethodHandle" ∧ yX4_isLink.cls ≠ "java/lang/invoke/VarHandle" ∧ (parseMethodDescriptor yX4_isLink.desc).map (fun d => d.parameters.length) = some 1 := by decide +kernel
theorem hd_X4_isOpen : yX4_isOpen.cls ≠ "java/lang/invoke/MethodHandle" ∧ yX4_isOpen.cls ≠ "java/lang/invoke/VarHandle" ∧ (parseMethodDescriptor yX4_isOpen.desc).map (fun d => d.parameters.length) = some 1 := by decide +kernel
theorem hd_X4_isThere : yX4_isThere.cls ≠ "java/lang/invoke/MethodHandle" ∧ yX4_isThere.cls ≠ "java/lang/invoke/VarHandle" ∧ (parseMethodDescriptor yX4_isThere.desc).map (fun d => d.parameters.length) = some 1 := by decide +kernel
theorem hd_X4_knowsNothing : yX4_knowsNothing.cls ≠ "java/lang/invoke/MethodHandle" ∧ yX4_knowsNothing.cls ≠ "java/lang/invoke/VarHandle" ∧ (parseMethodDescriptor yX4_knowsNothing.desc).map (fun d => d.parameters.length) = some 2 := by decide +kernel
theorem hd_X4_lay : yX4_lay.cls ≠ "java/lang/invoke/MethodHandle" ∧ yX4_lay.cls ≠ "java/lang/invoke/VarHandle" ∧ (parseMethodDescriptor yX4_lay.desc).map (fun d => d.parameters.length) = some 6 := by decide +kernel
theorem hd_X4_layFair : yX4_layFair.cls ≠ "java/lang/invoke/MethodHandle" ∧ yX4_layFair.cls ≠ "java/lang/invoke/VarHandle" ∧ (parseMethodDescriptor yX4_layFair.desc).map (fun d => d.parameters.length) = some 0 := by decide +kernel
theorem hd_X4_leastLevel : yX4_leastLevel.cls ≠ "java/lang/invoke/MethodHandle" ∧ yX4_leastLevel.cls ≠ "java/lang/invoke/VarHandle" ∧ (parseMethodDescriptor yX4_leastLevel.desc).map (fun d => d.parameters.length) = some 0 := by decide +kernel
theorem hd_X4_leftOf : yX4_leftOf.cls ≠ "java/lang/invoke/MethodHandle" ∧ yX4_leftOf.cls ≠ "java/lang/invoke/VarHandle" ∧ (parseMethodDescriptor yX4_leftOf.desc).map (fun d => d.parameters.length) = some 1 := by decide +kernel
theorem hd_X4_lesser : yX4_lesser.cls ≠ "java/lang/invoke/MethodHandle" ∧ yX4_lesser.cls ≠ "java/lang/invoke/VarHandle" ∧ (parseMethodDescriptor yX4_lesser.desc).map (fun d => d.parameters.length) = some 2 := by decide +kernel
theorem hd_X4_linksWithFlows : yX4_linksWithFlows.cls ≠ "java/lang/invoke/MethodHandle" ∧ yX4_linksWithFlows.cls ≠ "java/lang/invoke/VarHandle" ∧ (parseMethodDescriptor yX4_linksWithFlows.desc).map (fun d => d.parameters.length) = some 0 := by decide +kernel
theorem hd_X4_marksAll : yX4_marksAll.cls ≠ "java/lang/invoke/MethodHandle" ∧ yX4_marksAll.cls ≠ "java/lang/invoke/VarHandle" ∧ (parseMethodDescriptor yX4_marksAll.desc).map (fun d => d.parameters.length) = some 0 := by decide +kernel
theorem hd_X4_namedBy : yX4_namedBy.cls ≠ "java/lang/invoke/MethodHandle" ∧ yX4_namedBy.cls ≠ "java/lang/invoke/VarHandle" ∧ (parseMethodDescriptor yX4_namedBy.desc).map (fun d => d.parameters.length) = some 1 := by decide +kernel
theorem hd_X4_nextLink : yX4_nextLink.cls ≠ "java/lang/invoke/MethodHandle" ∧ yX4_nextLink.cls ≠ "java/lang/invoke/VarHandle" ∧ (parseMethodDescriptor yX4_nextLink.desc).map (fun d => d.parameters.length) = some 3 := by decide +kernel
theorem hd_X4_ones : yX4_ones.cls ≠ "java/lang/invoke/MethodHandle" ∧ yX4_ones.cls ≠ "java/lang/invoke/VarHandle" ∧ (parseMethodDescriptor yX4_ones.desc).map (fun d => d.parameters.length) = some 1 := by decide +kernel
theorem hd_X4_othersBy : yX4_othersBy.cls ≠ "java/lang/invoke/MethodHandle" ∧ yX4_othersBy.cls ≠ "java/lang/invoke/VarHandle" ∧ (parseMethodDescriptor yX4_othersBy.desc).map (fun d => d.parameters.length) = some 2 := by decide +kernel
theorem hd_X4_overbooked : yX4_overbooked.cls ≠ "java/lang/invoke/MethodHandle" ∧ yX4_overbooked.cls ≠ "java/lang/invoke/VarHandle" ∧ (parseMethodDescriptor yX4_overbooked.desc).map (fun d => d.parameters.length) = some 0 := by decide +kernel
theorem hd_X4_own : yX4_own.cls ≠ "java/lang/invoke/MethodHandle" ∧ yX4_own.cls ≠ "java/lang/invoke/VarHandle" ∧ (parseMethodDescriptor yX4_own.desc).map (fun d => d.parameters.length) = some 1 := by decide +kernel
theorem hd_X4_passLevel : yX4_passLevel.cls ≠ "java/lang/invoke/MethodHandle" ∧ yX4_passLevel.cls ≠ "java/lang/invoke/VarHandle" ∧ (parseMethodDescriptor yX4_passLevel.desc).map (fun d => d.parameters.length) = some 1 := by decide +kernel
theorem hd_X4_rate : yX4_rate.cls ≠ "java/lang/invoke/MethodHandle" ∧ yX4_rate.cls ≠ "java/lang/invoke/VarHandle" ∧ (parseMethodDescriptor yX4_rate.desc).map (fun d => d.parameters.length) = some 2 := by decide +kernel
theorem hd_X4_ratesBy : yX4_ratesBy.cls ≠ "java/lang/invoke/MethodHandle" ∧ yX4_ratesBy.cls ≠ "java/lang/invoke/VarHandle" ∧ (parseMethodDescriptor yX4_ratesBy.desc).map (fun d => d.parameters.length) = some 2 := by decide +kernel
theorem hd_X4_refuse : yX4_refuse.cls ≠ "java/lang/invoke/MethodHandle" ∧ yX4_refuse.cls ≠ "java/lang/invoke/VarHandle" ∧ (parseMethodDescriptor yX4_refuse.desc).map (fun d => d.parameters.length) = some 1 := by decide +kernel
theorem hd_X4_reroute : yX4_reroute.cls ≠ "java/lang/invoke/MethodHandle" ∧ yX4_reroute.cls ≠ "java/lang/invoke/VarHandle" ∧ (parseMethodDescriptor yX4_reroute.desc).map (fun d => d.parameters.length) = some 2 := by decide +kernel
theorem hd_X4_roomOf : yX4_roomOf.cls ≠ "java/lang/invoke/MethodHandle" ∧ yX4_roomOf.cls ≠ "java/lang/invoke/VarHandle" ∧ (parseMethodDescriptor yX4_roomOf.desc).map (fun d => d.parameters.length) = some 1 := by decide +kernel
theorem hd_X4_round : yX4_round.cls ≠ "java/lang/invoke/MethodHandle" ∧ yX4_round.cls ≠ "java/lang/invoke/VarHandle" ∧ (parseMethodDescriptor yX4_round.desc).map (fun d => d.parameters.length) = some 0 := by decide +kernel
theorem hd_X4_sends : yX4_sends.cls ≠ "java/lang/invoke/MethodHandle" ∧ yX4_sends.cls ≠ "java/lang/invoke/VarHandle" ∧ (parseMethodDescriptor yX4_sends.desc).map (fun d => d.parameters.length) = some 1 := by decide +kernel
theorem hd_X4_takeLevels : yX4_takeLevels.cls ≠ "java/lang/invoke/MethodHandle" ∧ yX4_takeLevels.cls ≠ "java/lang/invoke/VarHandle" ∧ (parseMethodDescriptor yX4_takeLevels.desc).map (fun d => d.parameters.length) = some 0 := by decide +kernel
theorem hd_X4_think : yX4_think.cls ≠ "java/lang/invoke/MethodHandle" ∧ yX4_think.cls ≠ "java/lang/invoke/VarHandle" ∧ (parseMethodDescriptor yX4_think.desc).map (fun d => d.parameters.length) = some 0 := by decide +kernel
theorem hd_X4_tideOf : yX4_tideOf.cls ≠ "java/lang/invoke/MethodHandle" ∧ yX4_tideOf.cls ≠ "java/lang/invoke/VarHandle" ∧ (parseMethodDescriptor yX4_tideOf.desc).map (fun d => d.parameters.length) = some 1 := by decide +kernel
theorem hd_X4_toBeLost : yX4_toBeLost.cls ≠ "java/lang/invoke/MethodHandle" ∧ yX4_toBeLost.cls ≠ "java/lang/invoke/VarHandle" ∧ (parseMethodDescriptor yX4_toBeLost.desc).map (fun d => d.parameters.length) = some 0 := by decide +kernel
theorem hd_X4_underWay : yX4_underWay.cls ≠ "java/lang/invoke/MethodHandle" ∧ yX4_underWay.cls ≠ "java/lang/invoke/VarHandle" ∧ (parseMethodDescriptor yX4_underWay.desc).map (fun d => d.parameters.length) = some 0 := by decide +kernel
theorem hd_X4_usedOf : yX4_usedOf.cls ≠ "java/lang/invoke/MethodHandle" ∧ yX4_usedOf.cls ≠ "java/lang/invoke/VarHandle" ∧ (parseMethodDescriptor yX4_usedOf.desc).map (fun d => d.parameters.length) = some 1 := by decide +kernel
theorem hd_X4_waterBy : yX4_waterBy.cls ≠ "java/lang/invoke/MethodHandle" ∧ yX4_waterBy.cls ≠ "java/lang/invoke/VarHandle" ∧ (parseMethodDescriptor yX4_waterBy.desc).map (fun d => d.parameters.length) = some 2 := by decide +kernel
theorem hd_X4_whyNot : yX4_whyNot.cls ≠ "java/lang/invoke/MethodHandle" ∧ yX4_whyNot.cls ≠ "java/lang/invoke/VarHandle" ∧ (parseMethodDescriptor yX4_whyNot.desc).map (fun d => d.parameters.length) = some 4 := by decide +kernel
