/-! ===== the law's words ===== -/
theorem w9ml_25 : Cond.methodLink RL 25 yX3_link ∈ th_T := th_in1 219 (by decide +kernel) rfl
theorem w9in_X3 : Cond.initialized RX3 ∈ th_T := th_in1 1 (by decide +kernel) rfl
theorem h9_X3_link : yX3_link.cls ≠ "java/lang/invoke/MethodHandle" ∧ yX3_link.cls ≠ "java/lang/invoke/VarHandle" ∧ (parseMethodDescriptor yX3_link.desc).map (fun d => d.parameters.length) = some 2 := by decide +kernel
theorem w9cd_X3_link : Cond.code yX3_link cX3_link 4 (some .int) ∈ th_T := th_in1 222 (by decide +kernel) rfl
theorem w9im_X3_link : Cond.instanceMethod yX3_link ∈ th_T := th_in1 220 (by decide +kernel) rfl
theorem w9se_X3_link : Cond.selects RX3 yX3_link yX3_link ∈ th_T := th_in1 221 (by decide +kernel) rfl
theorem w9ml_28 : Cond.methodLink RL 28 yX4_link ∈ th_T := th_in4 208 (by decide +kernel) rfl
theorem w9in_X4 : Cond.initialized RX4 ∈ th_T := th_in1 6 (by decide +kernel) rfl
theorem h9_X4_link : yX4_link.cls ≠ "java/lang/invoke/MethodHandle" ∧ yX4_link.cls ≠ "java/lang/invoke/VarHandle" ∧ (parseMethodDescriptor yX4_link.desc).map (fun d => d.parameters.length) = some 2 := by decide +kernel
theorem w9cd_X4_link : Cond.code yX4_link cX4_link 4 (some .int) ∈ th_T := th_in4 211 (by decide +kernel) rfl
theorem w9im_X4_link : Cond.instanceMethod yX4_link ∈ th_T := th_in4 209 (by decide +kernel) rfl
theorem w9se_X4_link : Cond.selects RX4 yX4_link yX4_link ∈ th_T := th_in4 210 (by decide +kernel) rfl
theorem w9ml_29 : Cond.methodLink RL 29 yX3_come ∈ th_T := th_in2 2 (by decide +kernel) rfl
theorem h9_X3_come : yX3_come.cls ≠ "java/lang/invoke/MethodHandle" ∧ yX3_come.cls ≠ "java/lang/invoke/VarHandle" ∧ (parseMethodDescriptor yX3_come.desc).map (fun d => d.parameters.length) = some 5 := by decide +kernel
theorem w9cd_X3_come : Cond.code yX3_come cX3_come 7 (some .int) ∈ th_T := th_in2 5 (by decide +kernel) rfl
theorem w9im_X3_come : Cond.instanceMethod yX3_come ∈ th_T := th_in2 3 (by decide +kernel) rfl
theorem w9se_X3_come : Cond.selects RX3 yX3_come yX3_come ∈ th_T := th_in2 4 (by decide +kernel) rfl
theorem w9ml_33 : Cond.methodLink RL 33 yX4_come ∈ th_T := th_in4 232 (by decide +kernel) rfl
theorem h9_X4_come : yX4_come.cls ≠ "java/lang/invoke/MethodHandle" ∧ yX4_come.cls ≠ "java/lang/invoke/VarHandle" ∧ (parseMethodDescriptor yX4_come.desc).map (fun d => d.parameters.length) = some 5 := by decide +kernel
theorem w9cd_X4_come : Cond.code yX4_come cX4_come 8 (some .int) ∈ th_T := th_in4 235 (by decide +kernel) rfl
theorem w9im_X4_come : Cond.instanceMethod yX4_come ∈ th_T := th_in4 233 (by decide +kernel) rfl
theorem w9se_X4_come : Cond.selects RX4 yX4_come yX4_come ∈ th_T := th_in4 234 (by decide +kernel) rfl
theorem w9ml_34 : Cond.methodLink RL 34 yX3_go ∈ th_T := th_in2 52 (by decide +kernel) rfl
theorem h9_X3_go : yX3_go.cls ≠ "java/lang/invoke/MethodHandle" ∧ yX3_go.cls ≠ "java/lang/invoke/VarHandle" ∧ (parseMethodDescriptor yX3_go.desc).map (fun d => d.parameters.length) = some 1 := by decide +kernel
theorem w9cd_X3_go : Cond.code yX3_go cX3_go 2 (some .int) ∈ th_T := th_in2 55 (by decide +kernel) rfl
theorem w9im_X3_go : Cond.instanceMethod yX3_go ∈ th_T := th_in2 53 (by decide +kernel) rfl
theorem w9se_X3_go : Cond.selects RX3 yX3_go yX3_go ∈ th_T := th_in2 54 (by decide +kernel) rfl
theorem w9ml_38 : Cond.methodLink RL 38 yX4_go ∈ th_T := th_in5 29 (by decide +kernel) rfl
theorem h9_X4_go : yX4_go.cls ≠ "java/lang/invoke/MethodHandle" ∧ yX4_go.cls ≠ "java/lang/invoke/VarHandle" ∧ (parseMethodDescriptor yX4_go.desc).map (fun d => d.parameters.length) = some 1 := by decide +kernel
theorem w9cd_X4_go : Cond.code yX4_go cX4_go 2 (some .int) ∈ th_T := th_in5 32 (by decide +kernel) rfl
theorem w9im_X4_go : Cond.instanceMethod yX4_go ∈ th_T := th_in5 30 (by decide +kernel) rfl
theorem w9se_X4_go : Cond.selects RX4 yX4_go yX4_go ∈ th_T := th_in5 31 (by decide +kernel) rfl
theorem w9ml_39 : Cond.methodLink RL 39 yX3_change ∈ th_T := th_in2 79 (by decide +kernel) rfl
theorem h9_X3_change : yX3_change.cls ≠ "java/lang/invoke/MethodHandle" ∧ yX3_change.cls ≠ "java/lang/invoke/VarHandle" ∧ (parseMethodDescriptor yX3_change.desc).map (fun d => d.parameters.length) = some 3 := by decide +kernel
theorem w9cd_X3_change : Cond.code yX3_change cX3_change 5 (some .int) ∈ th_T := th_in2 82 (by decide +kernel) rfl
theorem w9im_X3_change : Cond.instanceMethod yX3_change ∈ th_T := th_in2 80 (by decide +kernel) rfl
theorem w9se_X3_change : Cond.selects RX3 yX3_change yX3_change ∈ th_T := th_in2 81 (by decide +kernel) rfl
theorem w9ml_43 : Cond.methodLink RL 43 yX4_change ∈ th_T := th_in5 42 (by decide +kernel) rfl
theorem h9_X4_change : yX4_change.cls ≠ "java/lang/invoke/MethodHandle" ∧ yX4_change.cls ≠ "java/lang/invoke/VarHandle" ∧ (parseMethodDescriptor yX4_change.desc).map (fun d => d.parameters.length) = some 3 := by decide +kernel
theorem w9cd_X4_change : Cond.code yX4_change cX4_change 6 (some .int) ∈ th_T := th_in5 45 (by decide +kernel) rfl
theorem w9im_X4_change : Cond.instanceMethod yX4_change ∈ th_T := th_in5 43 (by decide +kernel) rfl
theorem w9se_X4_change : Cond.selects RX4 yX4_change yX4_change ∈ th_T := th_in5 44 (by decide +kernel) rfl
theorem w9ml_44 : Cond.methodLink RL 44 yX3_hold ∈ th_T := th_in2 94 (by decide +kernel) rfl
theorem h9_X3_hold : yX3_hold.cls ≠ "java/lang/invoke/MethodHandle" ∧ yX3_hold.cls ≠ "java/lang/invoke/VarHandle" ∧ (parseMethodDescriptor yX3_hold.desc).map (fun d => d.parameters.length) = some 2 := by decide +kernel
theorem w9cd_X3_hold : Cond.code yX3_hold cX3_hold 3 (some .int) ∈ th_T := th_in2 97 (by decide +kernel) rfl
theorem w9im_X3_hold : Cond.instanceMethod yX3_hold ∈ th_T := th_in2 95 (by decide +kernel) rfl
theorem w9se_X3_hold : Cond.selects RX3 yX3_hold yX3_hold ∈ th_T := th_in2 96 (by decide +kernel) rfl
theorem w9ml_48 : Cond.methodLink RL 48 yX4_hold ∈ th_T := th_in5 51 (by decide +kernel) rfl
theorem h9_X4_hold : yX4_hold.cls ≠ "java/lang/invoke/MethodHandle" ∧ yX4_hold.cls ≠ "java/lang/invoke/VarHandle" ∧ (parseMethodDescriptor yX4_hold.desc).map (fun d => d.parameters.length) = some 2 := by decide +kernel
theorem w9cd_X4_hold : Cond.code yX4_hold cX4_hold 4 (some .int) ∈ th_T := th_in5 54 (by decide +kernel) rfl
theorem w9im_X4_hold : Cond.instanceMethod yX4_hold ∈ th_T := th_in5 52 (by decide +kernel) rfl
theorem w9se_X4_hold : Cond.selects RX4 yX4_hold yX4_hold ∈ th_T := th_in5 53 (by decide +kernel) rfl
theorem w9ml_49 : Cond.methodLink RL 49 yX3_route ∈ th_T := th_in2 102 (by decide +kernel) rfl
theorem h9_X3_route : yX3_route.cls ≠ "java/lang/invoke/MethodHandle" ∧ yX3_route.cls ≠ "java/lang/invoke/VarHandle" ∧ (parseMethodDescriptor yX3_route.desc).map (fun d => d.parameters.length) = some 2 := by decide +kernel
theorem w9cd_X3_route : Cond.code yX3_route cX3_route 5 (some .int) ∈ th_T := th_in2 105 (by decide +kernel) rfl
theorem w9im_X3_route : Cond.instanceMethod yX3_route ∈ th_T := th_in2 103 (by decide +kernel) rfl
theorem w9se_X3_route : Cond.selects RX3 yX3_route yX3_route ∈ th_T := th_in2 104 (by decide +kernel) rfl
theorem w9ml_52 : Cond.methodLink RL 52 yX4_route ∈ th_T := th_in5 59 (by decide +kernel) rfl
theorem h9_X4_route : yX4_route.cls ≠ "java/lang/invoke/MethodHandle" ∧ yX4_route.cls ≠ "java/lang/invoke/VarHandle" ∧ (parseMethodDescriptor yX4_route.desc).map (fun d => d.parameters.length) = some 2 := by decide +kernel
theorem w9cd_X4_route : Cond.code yX4_route cX4_route 4 (some .int) ∈ th_T := th_in5 62 (by decide +kernel) rfl
theorem w9im_X4_route : Cond.instanceMethod yX4_route ∈ th_T := th_in5 60 (by decide +kernel) rfl
theorem w9se_X4_route : Cond.selects RX4 yX4_route yX4_route ∈ th_T := th_in5 61 (by decide +kernel) rfl
theorem w9ml_53 : Cond.methodLink RL 53 yX3_lose ∈ th_T := th_in2 116 (by decide +kernel) rfl
theorem h9_X3_lose : yX3_lose.cls ≠ "java/lang/invoke/MethodHandle" ∧ yX3_lose.cls ≠ "java/lang/invoke/VarHandle" ∧ (parseMethodDescriptor yX3_lose.desc).map (fun d => d.parameters.length) = some 2 := by decide +kernel
theorem w9cd_X3_lose : Cond.code yX3_lose cX3_lose 4 (some .int) ∈ th_T := th_in2 119 (by decide +kernel) rfl
theorem w9im_X3_lose : Cond.instanceMethod yX3_lose ∈ th_T := th_in2 117 (by decide +kernel) rfl
theorem w9se_X3_lose : Cond.selects RX3 yX3_lose yX3_lose ∈ th_T := th_in2 118 (by decide +kernel) rfl
theorem w9ml_56 : Cond.methodLink RL 56 yX4_lose ∈ th_T := th_in5 70 (by decide +kernel) rfl
theorem h9_X4_lose : yX4_lose.cls ≠ "java/lang/invoke/MethodHandle" ∧ yX4_lose.cls ≠ "java/lang/invoke/VarHandle" ∧ (parseMethodDescriptor yX4_lose.desc).map (fun d => d.parameters.length) = some 2 := by decide +kernel
theorem w9cd_X4_lose : Cond.code yX4_lose cX4_lose 4 (some .int) ∈ th_T := th_in5 73 (by decide +kernel) rfl
theorem w9im_X4_lose : Cond.instanceMethod yX4_lose ∈ th_T := th_in5 71 (by decide +kernel) rfl
theorem w9se_X4_lose : Cond.selects RX4 yX4_lose yX4_lose ∈ th_T := th_in5 72 (by decide +kernel) rfl
theorem w9ml_57 : Cond.methodLink RL 57 yX3_hop ∈ th_T := th_in2 120 (by decide +kernel) rfl
theorem h9_X3_hop : yX3_hop.cls ≠ "java/lang/invoke/MethodHandle" ∧ yX3_hop.cls ≠ "java/lang/invoke/VarHandle" ∧ (parseMethodDescriptor yX3_hop.desc).map (fun d => d.parameters.length) = some 1 := by decide +kernel
theorem w9cd_X3_hop : Cond.code yX3_hop cX3_hop 2 (some .int) ∈ th_T := th_in2 123 (by decide +kernel) rfl
theorem w9im_X3_hop : Cond.instanceMethod yX3_hop ∈ th_T := th_in2 121 (by decide +kernel) rfl
theorem w9se_X3_hop : Cond.selects RX3 yX3_hop yX3_hop ∈ th_T := th_in2 122 (by decide +kernel) rfl
theorem w9ml_60 : Cond.methodLink RL 60 yX4_hop ∈ th_T := th_in5 112 (by decide +kernel) rfl
theorem h9_X4_hop : yX4_hop.cls ≠ "java/lang/invoke/MethodHandle" ∧ yX4_hop.cls ≠ "java/lang/invoke/VarHandle" ∧ (parseMethodDescriptor yX4_hop.desc).map (fun d => d.parameters.length) = some 1 := by decide +kernel
theorem w9cd_X4_hop : Cond.code yX4_hop cX4_hop 5 (some .int) ∈ th_T := th_in5 115 (by decide +kernel) rfl
theorem w9im_X4_hop : Cond.instanceMethod yX4_hop ∈ th_T := th_in5 113 (by decide +kernel) rfl
theorem w9se_X4_hop : Cond.selects RX4 yX4_hop yX4_hop ∈ th_T := th_in5 114 (by decide +kernel) rfl
theorem w9ml_61 : Cond.methodLink RL 61 yX3_letter ∈ th_T := th_in2 193 (by decide +kernel) rfl
theorem h9_X3_letter : yX3_letter.cls ≠ "java/lang/invoke/MethodHandle" ∧ yX3_letter.cls ≠ "java/lang/invoke/VarHandle" ∧ (parseMethodDescriptor yX3_letter.desc).map (fun d => d.parameters.length) = some 1 := by decide +kernel
theorem w9cd_X3_letter : Cond.code yX3_letter cX3_letter 2 (some .int) ∈ th_T := th_in2 196 (by decide +kernel) rfl
theorem w9im_X3_letter : Cond.instanceMethod yX3_letter ∈ th_T := th_in2 194 (by decide +kernel) rfl
theorem w9se_X3_letter : Cond.selects RX3 yX3_letter yX3_letter ∈ th_T := th_in2 195 (by decide +kernel) rfl
theorem w9ml_64 : Cond.methodLink RL 64 yX4_letter ∈ th_T := th_in5 75 (by decide +kernel) rfl
theorem h9_X4_letter : yX4_letter.cls ≠ "java/lang/invoke/MethodHandle" ∧ yX4_letter.cls ≠ "java/lang/invoke/VarHandle" ∧ (parseMethodDescriptor yX4_letter.desc).map (fun d => d.parameters.length) = some 1 := by decide +kernel
theorem w9cd_X4_letter : Cond.code yX4_letter cX4_letter 2 (some .int) ∈ th_T := th_in5 78 (by decide +kernel) rfl
theorem w9im_X4_letter : Cond.instanceMethod yX4_letter ∈ th_T := th_in5 76 (by decide +kernel) rfl
theorem w9se_X4_letter : Cond.selects RX4 yX4_letter yX4_letter ∈ th_T := th_in5 77 (by decide +kernel) rfl
theorem w9ml_65 : Cond.methodLink RL 65 yX3_rounds ∈ th_T := th_in2 201 (by decide +kernel) rfl
theorem h9_X3_rounds : yX3_rounds.cls ≠ "java/lang/invoke/MethodHandle" ∧ yX3_rounds.cls ≠ "java/lang/invoke/VarHandle" ∧ (parseMethodDescriptor yX3_rounds.desc).map (fun d => d.parameters.length) = some 1 := by decide +kernel
theorem w9cd_X3_rounds : Cond.code yX3_rounds cX3_rounds 4 (some .int) ∈ th_T := th_in2 204 (by decide +kernel) rfl
theorem w9im_X3_rounds : Cond.instanceMethod yX3_rounds ∈ th_T := th_in2 202 (by decide +kernel) rfl
theorem w9se_X3_rounds : Cond.selects RX3 yX3_rounds yX3_rounds ∈ th_T := th_in2 203 (by decide +kernel) rfl
theorem w9ml_68 : Cond.methodLink RL 68 yX4_rounds ∈ th_T := th_in5 120 (by decide +kernel) rfl
theorem h9_X4_rounds : yX4_rounds.cls ≠ "java/lang/invoke/MethodHandle" ∧ yX4_rounds.cls ≠ "java/lang/invoke/VarHandle" ∧ (parseMethodDescriptor yX4_rounds.desc).map (fun d => d.parameters.length) = some 1 := by decide +kernel
theorem w9cd_X4_rounds : Cond.code yX4_rounds cX4_rounds 4 (some .int) ∈ th_T := th_in5 123 (by decide +kernel) rfl
theorem w9im_X4_rounds : Cond.instanceMethod yX4_rounds ∈ th_T := th_in5 121 (by decide +kernel) rfl
theorem w9se_X4_rounds : Cond.selects RX4 yX4_rounds yX4_rounds ∈ th_T := th_in5 122 (by decide +kernel) rfl
theorem w9ml_69 : Cond.methodLink RL 69 yX3_forget ∈ th_T := th_in2 212 (by decide +kernel) rfl
theorem h9_X3_forget : yX3_forget.cls ≠ "java/lang/invoke/MethodHandle" ∧ yX3_forget.cls ≠ "java/lang/invoke/VarHandle" ∧ (parseMethodDescriptor yX3_forget.desc).map (fun d => d.parameters.length) = some 0 := by decide +kernel
theorem w9cd_X3_forget : Cond.code yX3_forget cX3_forget 1 (some .int) ∈ th_T := th_in2 215 (by decide +kernel) rfl
theorem w9im_X3_forget : Cond.instanceMethod yX3_forget ∈ th_T := th_in2 213 (by decide +kernel) rfl
theorem w9se_X3_forget : Cond.selects RX3 yX3_forget yX3_forget ∈ th_T := th_in2 214 (by decide +kernel) rfl
theorem w9ml_73 : Cond.methodLink RL 73 yX4_forget ∈ th_T := th_in5 129 (by decide +kernel) rfl
theorem h9_X4_forget : yX4_forget.cls ≠ "java/lang/invoke/MethodHandle" ∧ yX4_forget.cls ≠ "java/lang/invoke/VarHandle" ∧ (parseMethodDescriptor yX4_forget.desc).map (fun d => d.parameters.length) = some 0 := by decide +kernel
theorem w9cd_X4_forget : Cond.code yX4_forget cX4_forget 3 (some .int) ∈ th_T := th_in5 132 (by decide +kernel) rfl
theorem w9im_X4_forget : Cond.instanceMethod yX4_forget ∈ th_T := th_in5 130 (by decide +kernel) rfl
theorem w9se_X4_forget : Cond.selects RX4 yX4_forget yX4_forget ∈ th_T := th_in5 131 (by decide +kernel) rfl
theorem w9ml_74 : Cond.methodLink RL 74 yX3_keep ∈ th_T := th_in2 220 (by decide +kernel) rfl
theorem h9_X3_keep : yX3_keep.cls ≠ "java/lang/invoke/MethodHandle" ∧ yX3_keep.cls ≠ "java/lang/invoke/VarHandle" ∧ (parseMethodDescriptor yX3_keep.desc).map (fun d => d.parameters.length) = some 1 := by decide +kernel
theorem w9cd_X3_keep : Cond.code yX3_keep cX3_keep 2 (some .boolean) ∈ th_T := th_in2 223 (by decide +kernel) rfl
theorem w9im_X3_keep : Cond.instanceMethod yX3_keep ∈ th_T := th_in2 221 (by decide +kernel) rfl
theorem w9se_X3_keep : Cond.selects RX3 yX3_keep yX3_keep ∈ th_T := th_in2 222 (by decide +kernel) rfl
theorem w9ml_78 : Cond.methodLink RL 78 yX4_keep ∈ th_T := th_in4 194 (by decide +kernel) rfl
theorem h9_X4_keep : yX4_keep.cls ≠ "java/lang/invoke/MethodHandle" ∧ yX4_keep.cls ≠ "java/lang/invoke/VarHandle" ∧ (parseMethodDescriptor yX4_keep.desc).map (fun d => d.parameters.length) = some 1 := by decide +kernel
theorem w9cd_X4_keep : Cond.code yX4_keep cX4_keep 2 (some .boolean) ∈ th_T := th_in4 197 (by decide +kernel) rfl
theorem w9im_X4_keep : Cond.instanceMethod yX4_keep ∈ th_T := th_in4 195 (by decide +kernel) rfl
theorem w9se_X4_keep : Cond.selects RX4 yX4_keep yX4_keep ∈ th_T := th_in4 196 (by decide +kernel) rfl
theorem w9ml_79 : Cond.methodLink RL 79 yX3_again ∈ th_T := th_in2 236 (by decide +kernel) rfl
theorem h9_X3_again : yX3_again.cls ≠ "java/lang/invoke/MethodHandle" ∧ yX3_again.cls ≠ "java/lang/invoke/VarHandle" ∧ (parseMethodDescriptor yX3_again.desc).map (fun d => d.parameters.length) = some 1 := by decide +kernel
theorem w9cd_X3_again : Cond.code yX3_again cX3_again 2 (some .boolean) ∈ th_T := th_in2 239 (by decide +kernel) rfl
theorem w9im_X3_again : Cond.instanceMethod yX3_again ∈ th_T := th_in2 237 (by decide +kernel) rfl
theorem w9se_X3_again : Cond.selects RX3 yX3_again yX3_again ∈ th_T := th_in2 238 (by decide +kernel) rfl
theorem w9ml_82 : Cond.methodLink RL 82 yX4_again ∈ th_T := th_in4 204 (by decide +kernel) rfl
theorem h9_X4_again : yX4_again.cls ≠ "java/lang/invoke/MethodHandle" ∧ yX4_again.cls ≠ "java/lang/invoke/VarHandle" ∧ (parseMethodDescriptor yX4_again.desc).map (fun d => d.parameters.length) = some 1 := by decide +kernel
theorem w9cd_X4_again : Cond.code yX4_again cX4_again 2 (some .boolean) ∈ th_T := th_in4 207 (by decide +kernel) rfl
theorem w9im_X4_again : Cond.instanceMethod yX4_again ∈ th_T := th_in4 205 (by decide +kernel) rfl
theorem w9se_X4_again : Cond.selects RX4 yX4_again yX4_again ∈ th_T := th_in4 206 (by decide +kernel) rfl
theorem w9ml_83 : Cond.methodLink RL 83 yX3_links ∈ th_T := th_in3 0 (by decide +kernel) rfl
theorem h9_X3_links : yX3_links.cls ≠ "java/lang/invoke/MethodHandle" ∧ yX3_links.cls ≠ "java/lang/invoke/VarHandle" ∧ (parseMethodDescriptor yX3_links.desc).map (fun d => d.parameters.length) = some 2 := by decide +kernel
theorem w9cd_X3_links : Cond.code yX3_links cX3_links 3 (some .int) ∈ th_T := th_in3 3 (by decide +kernel) rfl
theorem w9im_X3_links : Cond.instanceMethod yX3_links ∈ th_T := th_in3 1 (by decide +kernel) rfl
theorem w9se_X3_links : Cond.selects RX3 yX3_links yX3_links ∈ th_T := th_in3 2 (by decide +kernel) rfl
theorem w9ml_86 : Cond.methodLink RL 86 yX4_links ∈ th_T := th_in5 133 (by decide +kernel) rfl
theorem h9_X4_links : yX4_links.cls ≠ "java/lang/invoke/MethodHandle" ∧ yX4_links.cls ≠ "java/lang/invoke/VarHandle" ∧ (parseMethodDescriptor yX4_links.desc).map (fun d => d.parameters.length) = some 2 := by decide +kernel
theorem w9cd_X4_links : Cond.code yX4_links cX4_links 5 (some .int) ∈ th_T := th_in5 136 (by decide +kernel) rfl
theorem w9im_X4_links : Cond.instanceMethod yX4_links ∈ th_T := th_in5 134 (by decide +kernel) rfl
theorem w9se_X4_links : Cond.selects RX4 yX4_links yX4_links ∈ th_T := th_in5 135 (by decide +kernel) rfl
theorem w9ml_87 : Cond.methodLink RL 87 yL_flow ∈ th_T := th_in4 37 (by decide +kernel) rfl
theorem w9in_L : Cond.initialized RL ∈ th_T := th_in1 0 (by decide +kernel) rfl
theorem h9_L_flow : yL_flow.cls ≠ "java/lang/invoke/MethodHandle" ∧ yL_flow.cls ≠ "java/lang/invoke/VarHandle" ∧ (parseMethodDescriptor yL_flow.desc).map (fun d => d.parameters.length) = some 4 := by decide +kernel
theorem w9st_L_flow : Cond.static yL_flow ∈ th_T := th_in4 38 (by decide +kernel) rfl
theorem w9cd_L_flow : Cond.codeWith yL_flow cL_flow 5 (some .int) hp_h ∈ th_T := th_in4 39 (by decide +kernel) rfl
theorem w9ml_7 : Cond.methodLink RL 7 yX3_flow ∈ th_T := th_in4 41 (by decide +kernel) rfl
theorem h9_X3_flow : yX3_flow.cls ≠ "java/lang/invoke/MethodHandle" ∧ yX3_flow.cls ≠ "java/lang/invoke/VarHandle" ∧ (parseMethodDescriptor yX3_flow.desc).map (fun d => d.parameters.length) = some 2 := by decide +kernel
theorem w9cd_X3_flow : Cond.code yX3_flow cX3_flow 3 (some .int) ∈ th_T := th_in4 44 (by decide +kernel) rfl
theorem w9im_X3_flow : Cond.instanceMethod yX3_flow ∈ th_T := th_in4 42 (by decide +kernel) rfl
theorem w9se_X3_flow : Cond.selects RX3 yX3_flow yX3_flow ∈ th_T := th_in4 43 (by decide +kernel) rfl
theorem w9ml_92 : Cond.methodLink RL 92 yX4_flow ∈ th_T := th_in5 137 (by decide +kernel) rfl
theorem h9_X4_flow : yX4_flow.cls ≠ "java/lang/invoke/MethodHandle" ∧ yX4_flow.cls ≠ "java/lang/invoke/VarHandle" ∧ (parseMethodDescriptor yX4_flow.desc).map (fun d => d.parameters.length) = some 2 := by decide +kernel
theorem w9cd_X4_flow : Cond.code yX4_flow cX4_flow 4 (some .int) ∈ th_T := th_in5 140 (by decide +kernel) rfl
theorem w9im_X4_flow : Cond.instanceMethod yX4_flow ∈ th_T := th_in5 138 (by decide +kernel) rfl
theorem w9se_X4_flow : Cond.selects RX4 yX4_flow yX4_flow ∈ th_T := th_in5 139 (by decide +kernel) rfl
theorem w9ml_93 : Cond.methodLink RL 93 yX4_thrown ∈ th_T := th_in4 190 (by decide +kernel) rfl
theorem h9_X4_thrown : yX4_thrown.cls ≠ "java/lang/invoke/MethodHandle" ∧ yX4_thrown.cls ≠ "java/lang/invoke/VarHandle" ∧ (parseMethodDescriptor yX4_thrown.desc).map (fun d => d.parameters.length) = some 0 := by decide +kernel
theorem w9cd_X4_thrown : Cond.code yX4_thrown cX4_thrown 1 (some .int) ∈ th_T := th_in4 193 (by decide +kernel) rfl
theorem w9im_X4_thrown : Cond.instanceMethod yX4_thrown ∈ th_T := th_in4 191 (by decide +kernel) rfl
theorem w9se_X4_thrown : Cond.selects RX4 yX4_thrown yX4_thrown ∈ th_T := th_in4 192 (by decide +kernel) rfl
theorem w9ml_96 : Cond.methodLink RL 96 yX3_named ∈ th_T := th_in3 4 (by decide +kernel) rfl
theorem h9_X3_named : yX3_named.cls ≠ "java/lang/invoke/MethodHandle" ∧ yX3_named.cls ≠ "java/lang/invoke/VarHandle" ∧ (parseMethodDescriptor yX3_named.desc).map (fun d => d.parameters.length) = some 1 := by decide +kernel
theorem w9cd_X3_named : Cond.code yX3_named cX3_named 2 (some .int) ∈ th_T := th_in3 7 (by decide +kernel) rfl
theorem w9im_X3_named : Cond.instanceMethod yX3_named ∈ th_T := th_in3 5 (by decide +kernel) rfl
theorem w9se_X3_named : Cond.selects RX3 yX3_named yX3_named ∈ th_T := th_in3 6 (by decide +kernel) rfl
theorem w9ml_99 : Cond.methodLink RL 99 yX4_named ∈ th_T := th_in5 146 (by decide +kernel) rfl
theorem h9_X4_named : yX4_named.cls ≠ "java/lang/invoke/MethodHandle" ∧ yX4_named.cls ≠ "java/lang/invoke/VarHandle" ∧ (parseMethodDescriptor yX4_named.desc).map (fun d => d.parameters.length) = some 1 := by decide +kernel
theorem w9cd_X4_named : Cond.code yX4_named cX4_named 2 (some .int) ∈ th_T := th_in5 149 (by decide +kernel) rfl
theorem w9im_X4_named : Cond.instanceMethod yX4_named ∈ th_T := th_in5 147 (by decide +kernel) rfl
theorem w9se_X4_named : Cond.selects RX4 yX4_named yX4_named ∈ th_T := th_in5 148 (by decide +kernel) rfl
theorem w9ml_100 : Cond.methodLink RL 100 yL_fair ∈ th_T := th_in4 113 (by decide +kernel) rfl
theorem h9_L_fair : yL_fair.cls ≠ "java/lang/invoke/MethodHandle" ∧ yL_fair.cls ≠ "java/lang/invoke/VarHandle" ∧ (parseMethodDescriptor yL_fair.desc).map (fun d => d.parameters.length) = some 4 := by decide +kernel
theorem w9st_L_fair : Cond.static yL_fair ∈ th_T := th_in4 114 (by decide +kernel) rfl
theorem w9cd_L_fair : Cond.codeWith yL_fair cL_fair 5 (some .int) hp_h ∈ th_T := th_in4 115 (by decide +kernel) rfl
theorem w9ml_15 : Cond.methodLink RL 15 yX3_fair ∈ th_T := th_in4 116 (by decide +kernel) rfl
theorem h9_X3_fair : yX3_fair.cls ≠ "java/lang/invoke/MethodHandle" ∧ yX3_fair.cls ≠ "java/lang/invoke/VarHandle" ∧ (parseMethodDescriptor yX3_fair.desc).map (fun d => d.parameters.length) = some 2 := by decide +kernel
theorem w9cd_X3_fair : Cond.code yX3_fair cX3_fair 3 (some .int) ∈ th_T := th_in4 119 (by decide +kernel) rfl
theorem w9im_X3_fair : Cond.instanceMethod yX3_fair ∈ th_T := th_in4 117 (by decide +kernel) rfl
theorem w9se_X3_fair : Cond.selects RX3 yX3_fair yX3_fair ∈ th_T := th_in4 118 (by decide +kernel) rfl
theorem w9ml_102 : Cond.methodLink RL 102 yX4_fair ∈ th_T := th_in5 150 (by decide +kernel) rfl
theorem h9_X4_fair : yX4_fair.cls ≠ "java/lang/invoke/MethodHandle" ∧ yX4_fair.cls ≠ "java/lang/invoke/VarHandle" ∧ (parseMethodDescriptor yX4_fair.desc).map (fun d => d.parameters.length) = some 2 := by decide +kernel
theorem w9cd_X4_fair : Cond.code yX4_fair cX4_fair 3 (some .int) ∈ th_T := th_in5 153 (by decide +kernel) rfl
theorem w9im_X4_fair : Cond.instanceMethod yX4_fair ∈ th_T := th_in5 151 (by decide +kernel) rfl
theorem w9se_X4_fair : Cond.selects RX4 yX4_fair yX4_fair ∈ th_T := th_in5 152 (by decide +kernel) rfl
theorem w9ml_103 : Cond.methodLink RL 103 yX3_used ∈ th_T := th_in3 8 (by decide +kernel) rfl
theorem h9_X3_used : yX3_used.cls ≠ "java/lang/invoke/MethodHandle" ∧ yX3_used.cls ≠ "java/lang/invoke/VarHandle" ∧ (parseMethodDescriptor yX3_used.desc).map (fun d => d.parameters.length) = some 2 := by decide +kernel
theorem w9cd_X3_used : Cond.code yX3_used cX3_used 3 (some .int) ∈ th_T := th_in3 11 (by decide +kernel) rfl
theorem w9im_X3_used : Cond.instanceMethod yX3_used ∈ th_T := th_in3 9 (by decide +kernel) rfl
theorem w9se_X3_used : Cond.selects RX3 yX3_used yX3_used ∈ th_T := th_in3 10 (by decide +kernel) rfl
theorem w9ml_106 : Cond.methodLink RL 106 yX4_used ∈ th_T := th_in5 178 (by decide +kernel) rfl
theorem h9_X4_used : yX4_used.cls ≠ "java/lang/invoke/MethodHandle" ∧ yX4_used.cls ≠ "java/lang/invoke/VarHandle" ∧ (parseMethodDescriptor yX4_used.desc).map (fun d => d.parameters.length) = some 2 := by decide +kernel
theorem w9cd_X4_used : Cond.code yX4_used cX4_used 6 (some .int) ∈ th_T := th_in5 181 (by decide +kernel) rfl
theorem w9im_X4_used : Cond.instanceMethod yX4_used ∈ th_T := th_in5 179 (by decide +kernel) rfl
theorem w9se_X4_used : Cond.selects RX4 yX4_used yX4_used ∈ th_T := th_in5 180 (by decide +kernel) rfl
theorem w9ml_107 : Cond.methodLink RL 107 yX3_water ∈ th_T := th_in3 56 (by decide +kernel) rfl
theorem h9_X3_water : yX3_water.cls ≠ "java/lang/invoke/MethodHandle" ∧ yX3_water.cls ≠ "java/lang/invoke/VarHandle" ∧ (parseMethodDescriptor yX3_water.desc).map (fun d => d.parameters.length) = some 1 := by decide +kernel
theorem w9cd_X3_water : Cond.code yX3_water cX3_water 2 (some .int) ∈ th_T := th_in3 59 (by decide +kernel) rfl
theorem w9im_X3_water : Cond.instanceMethod yX3_water ∈ th_T := th_in3 57 (by decide +kernel) rfl
theorem w9se_X3_water : Cond.selects RX3 yX3_water yX3_water ∈ th_T := th_in3 58 (by decide +kernel) rfl
theorem w9ml_110 : Cond.methodLink RL 110 yX4_water ∈ th_T := th_in5 186 (by decide +kernel) rfl
theorem h9_X4_water : yX4_water.cls ≠ "java/lang/invoke/MethodHandle" ∧ yX4_water.cls ≠ "java/lang/invoke/VarHandle" ∧ (parseMethodDescriptor yX4_water.desc).map (fun d => d.parameters.length) = some 1 := by decide +kernel
theorem w9cd_X4_water : Cond.code yX4_water cX4_water 2 (some .int) ∈ th_T := th_in5 189 (by decide +kernel) rfl
theorem w9im_X4_water : Cond.instanceMethod yX4_water ∈ th_T := th_in5 187 (by decide +kernel) rfl
theorem w9se_X4_water : Cond.selects RX4 yX4_water yX4_water ∈ th_T := th_in5 188 (by decide +kernel) rfl
theorem w9ml_111 : Cond.methodLink RL 111 yX3_step ∈ th_T := th_in3 69 (by decide +kernel) rfl
theorem h9_X3_step : yX3_step.cls ≠ "java/lang/invoke/MethodHandle" ∧ yX3_step.cls ≠ "java/lang/invoke/VarHandle" ∧ (parseMethodDescriptor yX3_step.desc).map (fun d => d.parameters.length) = some 2 := by decide +kernel
theorem w9cd_X3_step : Cond.code yX3_step cX3_step 3 (some .int) ∈ th_T := th_in3 72 (by decide +kernel) rfl
theorem w9im_X3_step : Cond.instanceMethod yX3_step ∈ th_T := th_in3 70 (by decide +kernel) rfl
theorem w9se_X3_step : Cond.selects RX3 yX3_step yX3_step ∈ th_T := th_in3 71 (by decide +kernel) rfl
theorem w9ml_114 : Cond.methodLink RL 114 yX4_step ∈ th_T := th_in5 198 (by decide +kernel) rfl
theorem h9_X4_step : yX4_step.cls ≠ "java/lang/invoke/MethodHandle" ∧ yX4_step.cls ≠ "java/lang/invoke/VarHandle" ∧ (parseMethodDescriptor yX4_step.desc).map (fun d => d.parameters.length) = some 2 := by decide +kernel
theorem w9cd_X4_step : Cond.code yX4_step cX4_step 5 (some .int) ∈ th_T := th_in5 201 (by decide +kernel) rfl
theorem w9im_X4_step : Cond.instanceMethod yX4_step ∈ th_T := th_in5 199 (by decide +kernel) rfl
theorem w9se_X4_step : Cond.selects RX4 yX4_step yX4_step ∈ th_T := th_in5 200 (by decide +kernel) rfl
theorem w9ml_115 : Cond.methodLink RL 115 yX3_ranked ∈ th_T := th_in3 73 (by decide +kernel) rfl
theorem h9_X3_ranked : yX3_ranked.cls ≠ "java/lang/invoke/MethodHandle" ∧ yX3_ranked.cls ≠ "java/lang/invoke/VarHandle" ∧ (parseMethodDescriptor yX3_ranked.desc).map (fun d => d.parameters.length) = some 1 := by decide +kernel
theorem w9cd_X3_ranked : Cond.code yX3_ranked cX3_ranked 3 (some .int) ∈ th_T := th_in3 76 (by decide +kernel) rfl
theorem w9im_X3_ranked : Cond.instanceMethod yX3_ranked ∈ th_T := th_in3 74 (by decide +kernel) rfl
theorem w9se_X3_ranked : Cond.selects RX3 yX3_ranked yX3_ranked ∈ th_T := th_in3 75 (by decide +kernel) rfl
theorem w9ml_118 : Cond.methodLink RL 118 yX4_ranked ∈ th_T := th_in5 203 (by decide +kernel) rfl
theorem h9_X4_ranked : yX4_ranked.cls ≠ "java/lang/invoke/MethodHandle" ∧ yX4_ranked.cls ≠ "java/lang/invoke/VarHandle" ∧ (parseMethodDescriptor yX4_ranked.desc).map (fun d => d.parameters.length) = some 1 := by decide +kernel
theorem w9cd_X4_ranked : Cond.code yX4_ranked cX4_ranked 5 (some .int) ∈ th_T := th_in5 206 (by decide +kernel) rfl
theorem w9im_X4_ranked : Cond.instanceMethod yX4_ranked ∈ th_T := th_in5 204 (by decide +kernel) rfl
theorem w9se_X4_ranked : Cond.selects RX4 yX4_ranked yX4_ranked ∈ th_T := th_in5 205 (by decide +kernel) rfl
theorem w9ml_119 : Cond.methodLink RL 119 yL_proof ∈ th_T := th_in4 120 (by decide +kernel) rfl
theorem h9_L_proof : yL_proof.cls ≠ "java/lang/invoke/MethodHandle" ∧ yL_proof.cls ≠ "java/lang/invoke/VarHandle" ∧ (parseMethodDescriptor yL_proof.desc).map (fun d => d.parameters.length) = some 4 := by decide +kernel
theorem w9st_L_proof : Cond.static yL_proof ∈ th_T := th_in4 121 (by decide +kernel) rfl
theorem w9cd_L_proof : Cond.codeWith yL_proof cL_proof 5 (some .int) hp_h ∈ th_T := th_in4 122 (by decide +kernel) rfl
theorem w9ml_18 : Cond.methodLink RL 18 yX3_proof ∈ th_T := th_in4 123 (by decide +kernel) rfl
theorem h9_X3_proof : yX3_proof.cls ≠ "java/lang/invoke/MethodHandle" ∧ yX3_proof.cls ≠ "java/lang/invoke/VarHandle" ∧ (parseMethodDescriptor yX3_proof.desc).map (fun d => d.parameters.length) = some 2 := by decide +kernel
theorem w9cd_X3_proof : Cond.code yX3_proof cX3_proof 7 (some .int) ∈ th_T := th_in4 126 (by decide +kernel) rfl
theorem w9im_X3_proof : Cond.instanceMethod yX3_proof ∈ th_T := th_in4 124 (by decide +kernel) rfl
theorem w9se_X3_proof : Cond.selects RX3 yX3_proof yX3_proof ∈ th_T := th_in4 125 (by decide +kernel) rfl
theorem w9ml_121 : Cond.methodLink RL 121 yX4_proof ∈ th_T := th_in5 207 (by decide +kernel) rfl
theorem h9_X4_proof : yX4_proof.cls ≠ "java/lang/invoke/MethodHandle" ∧ yX4_proof.cls ≠ "java/lang/invoke/VarHandle" ∧ (parseMethodDescriptor yX4_proof.desc).map (fun d => d.parameters.length) = some 2 := by decide +kernel
theorem w9cd_X4_proof : Cond.code yX4_proof cX4_proof 8 (some .int) ∈ th_T := th_in5 210 (by decide +kernel) rfl
theorem w9im_X4_proof : Cond.instanceMethod yX4_proof ∈ th_T := th_in5 208 (by decide +kernel) rfl
theorem w9se_X4_proof : Cond.selects RX4 yX4_proof yX4_proof ∈ th_T := th_in5 209 (by decide +kernel) rfl
theorem w9ml_122 : Cond.methodLink RL 122 yX3_fullest ∈ th_T := th_in3 86 (by decide +kernel) rfl
theorem h9_X3_fullest : yX3_fullest.cls ≠ "java/lang/invoke/MethodHandle" ∧ yX3_fullest.cls ≠ "java/lang/invoke/VarHandle" ∧ (parseMethodDescriptor yX3_fullest.desc).map (fun d => d.parameters.length) = some 1 := by decide +kernel
theorem w9cd_X3_fullest : Cond.code yX3_fullest cX3_fullest 3 (some .int) ∈ th_T := th_in3 89 (by decide +kernel) rfl
theorem w9im_X3_fullest : Cond.instanceMethod yX3_fullest ∈ th_T := th_in3 87 (by decide +kernel) rfl
theorem w9se_X3_fullest : Cond.selects RX3 yX3_fullest yX3_fullest ∈ th_T := th_in3 88 (by decide +kernel) rfl
theorem w9ml_125 : Cond.methodLink RL 125 yX4_fullest ∈ th_T := th_in5 211 (by decide +kernel) rfl
theorem h9_X4_fullest : yX4_fullest.cls ≠ "java/lang/invoke/MethodHandle" ∧ yX4_fullest.cls ≠ "java/lang/invoke/VarHandle" ∧ (parseMethodDescriptor yX4_fullest.desc).map (fun d => d.parameters.length) = some 1 := by decide +kernel
theorem w9cd_X4_fullest : Cond.code yX4_fullest cX4_fullest 5 (some .int) ∈ th_T := th_in5 214 (by decide +kernel) rfl
theorem w9im_X4_fullest : Cond.instanceMethod yX4_fullest ∈ th_T := th_in5 212 (by decide +kernel) rfl
theorem w9se_X4_fullest : Cond.selects RX4 yX4_fullest yX4_fullest ∈ th_T := th_in5 213 (by decide +kernel) rfl
theorem w9ml_126 : Cond.methodLink RL 126 yX3_even ∈ th_T := th_in3 95 (by decide +kernel) rfl
theorem h9_X3_even : yX3_even.cls ≠ "java/lang/invoke/MethodHandle" ∧ yX3_even.cls ≠ "java/lang/invoke/VarHandle" ∧ (parseMethodDescriptor yX3_even.desc).map (fun d => d.parameters.length) = some 1 := by decide +kernel
theorem w9cd_X3_even : Cond.code yX3_even cX3_even 12 (some .long) ∈ th_T := th_in3 98 (by decide +kernel) rfl
theorem w9im_X3_even : Cond.instanceMethod yX3_even ∈ th_T := th_in3 96 (by decide +kernel) rfl
theorem w9se_X3_even : Cond.selects RX3 yX3_even yX3_even ∈ th_T := th_in3 97 (by decide +kernel) rfl
theorem w9ml_130 : Cond.methodLink RL 130 yX4_even ∈ th_T := th_in5 223 (by decide +kernel) rfl
theorem h9_X4_even : yX4_even.cls ≠ "java/lang/invoke/MethodHandle" ∧ yX4_even.cls ≠ "java/lang/invoke/VarHandle" ∧ (parseMethodDescriptor yX4_even.desc).map (fun d => d.parameters.length) = some 1 := by decide +kernel
theorem w9cd_X4_even : Cond.code yX4_even cX4_even 10 (some .long) ∈ th_T := th_in5 226 (by decide +kernel) rfl
theorem w9im_X4_even : Cond.instanceMethod yX4_even ∈ th_T := th_in5 224 (by decide +kernel) rfl
theorem w9se_X4_even : Cond.selects RX4 yX4_even yX4_even ∈ th_T := th_in5 225 (by decide +kernel) rfl
theorem w9ml_131 : Cond.methodLink RL 131 yX3_advertised ∈ th_T := th_in3 107 (by decide +kernel) rfl
theorem h9_X3_advertised : yX3_advertised.cls ≠ "java/lang/invoke/MethodHandle" ∧ yX3_advertised.cls ≠ "java/lang/invoke/VarHandle" ∧ (parseMethodDescriptor yX3_advertised.desc).map (fun d => d.parameters.length) = some 1 := by decide +kernel
theorem w9cd_X3_advertised : Cond.code yX3_advertised cX3_advertised 2 (some .int) ∈ th_T := th_in3 110 (by decide +kernel) rfl
theorem w9im_X3_advertised : Cond.instanceMethod yX3_advertised ∈ th_T := th_in3 108 (by decide +kernel) rfl
theorem w9se_X3_advertised : Cond.selects RX3 yX3_advertised yX3_advertised ∈ th_T := th_in3 109 (by decide +kernel) rfl
theorem w9ml_134 : Cond.methodLink RL 134 yX4_advertised ∈ th_T := th_in5 231 (by decide +kernel) rfl
theorem h9_X4_advertised : yX4_advertised.cls ≠ "java/lang/invoke/MethodHandle" ∧ yX4_advertised.cls ≠ "java/lang/invoke/VarHandle" ∧ (parseMethodDescriptor yX4_advertised.desc).map (fun d => d.parameters.length) = some 1 := by decide +kernel
theorem w9cd_X4_advertised : Cond.code yX4_advertised cX4_advertised 2 (some .int) ∈ th_T := th_in5 234 (by decide +kernel) rfl
theorem w9im_X4_advertised : Cond.instanceMethod yX4_advertised ∈ th_T := th_in5 232 (by decide +kernel) rfl
theorem w9se_X4_advertised : Cond.selects RX4 yX4_advertised yX4_advertised ∈ th_T := th_in5 233 (by decide +kernel) rfl
theorem w9ml_135 : Cond.methodLink RL 135 yX3_pass ∈ th_T := th_in3 112 (by decide +kernel) rfl
theorem h9_X3_pass : yX3_pass.cls ≠ "java/lang/invoke/MethodHandle" ∧ yX3_pass.cls ≠ "java/lang/invoke/VarHandle" ∧ (parseMethodDescriptor yX3_pass.desc).map (fun d => d.parameters.length) = some 2 := by decide +kernel
theorem w9cd_X3_pass : Cond.code yX3_pass cX3_pass 4 (some .int) ∈ th_T := th_in3 115 (by decide +kernel) rfl
theorem w9im_X3_pass : Cond.instanceMethod yX3_pass ∈ th_T := th_in3 113 (by decide +kernel) rfl
theorem w9se_X3_pass : Cond.selects RX3 yX3_pass yX3_pass ∈ th_T := th_in3 114 (by decide +kernel) rfl
theorem w9ml_138 : Cond.methodLink RL 138 yX4_pass ∈ th_T := th_in5 235 (by decide +kernel) rfl
theorem h9_X4_pass : yX4_pass.cls ≠ "java/lang/invoke/MethodHandle" ∧ yX4_pass.cls ≠ "java/lang/invoke/VarHandle" ∧ (parseMethodDescriptor yX4_pass.desc).map (fun d => d.parameters.length) = some 2 := by decide +kernel
theorem w9cd_X4_pass : Cond.code yX4_pass cX4_pass 8 (some .int) ∈ th_T := th_in5 238 (by decide +kernel) rfl
theorem w9im_X4_pass : Cond.instanceMethod yX4_pass ∈ th_T := th_in5 236 (by decide +kernel) rfl
theorem w9se_X4_pass : Cond.selects RX4 yX4_pass yX4_pass ∈ th_T := th_in5 237 (by decide +kernel) rfl
theorem w9ml_139 : Cond.methodLink RL 139 yX3_known ∈ th_T := th_in3 124 (by decide +kernel) rfl
theorem h9_X3_known : yX3_known.cls ≠ "java/lang/invoke/MethodHandle" ∧ yX3_known.cls ≠ "java/lang/invoke/VarHandle" ∧ (parseMethodDescriptor yX3_known.desc).map (fun d => d.parameters.length) = some 3 := by decide +kernel
theorem w9cd_X3_known : Cond.code yX3_known cX3_known 4 (some .int) ∈ th_T := th_in3 127 (by decide +kernel) rfl
theorem w9im_X3_known : Cond.instanceMethod yX3_known ∈ th_T := th_in3 125 (by decide +kernel) rfl
theorem w9se_X3_known : Cond.selects RX3 yX3_known yX3_known ∈ th_T := th_in3 126 (by decide +kernel) rfl
theorem w9ml_142 : Cond.methodLink RL 142 yX4_known ∈ th_T := th_in6 3 (by decide +kernel) rfl
theorem h9_X4_known : yX4_known.cls ≠ "java/lang/invoke/MethodHandle" ∧ yX4_known.cls ≠ "java/lang/invoke/VarHandle" ∧ (parseMethodDescriptor yX4_known.desc).map (fun d => d.parameters.length) = some 3 := by decide +kernel
theorem w9cd_X4_known : Cond.code yX4_known cX4_known 4 (some .int) ∈ th_T := th_in6 6 (by decide +kernel) rfl
theorem w9im_X4_known : Cond.instanceMethod yX4_known ∈ th_T := th_in6 4 (by decide +kernel) rfl
theorem w9se_X4_known : Cond.selects RX4 yX4_known yX4_known ∈ th_T := th_in6 5 (by decide +kernel) rfl
theorem w9ml_143 : Cond.methodLink RL 143 yX3_booked ∈ th_T := th_in3 133 (by decide +kernel) rfl
theorem h9_X3_booked : yX3_booked.cls ≠ "java/lang/invoke/MethodHandle" ∧ yX3_booked.cls ≠ "java/lang/invoke/VarHandle" ∧ (parseMethodDescriptor yX3_booked.desc).map (fun d => d.parameters.length) = some 1 := by decide +kernel
theorem w9cd_X3_booked : Cond.code yX3_booked cX3_booked 2 (some .int) ∈ th_T := th_in3 136 (by decide +kernel) rfl
theorem w9im_X3_booked : Cond.instanceMethod yX3_booked ∈ th_T := th_in3 134 (by decide +kernel) rfl
theorem w9se_X3_booked : Cond.selects RX3 yX3_booked yX3_booked ∈ th_T := th_in3 135 (by decide +kernel) rfl
theorem w9ml_146 : Cond.methodLink RL 146 yX4_booked ∈ th_T := th_in6 7 (by decide +kernel) rfl
theorem h9_X4_booked : yX4_booked.cls ≠ "java/lang/invoke/MethodHandle" ∧ yX4_booked.cls ≠ "java/lang/invoke/VarHandle" ∧ (parseMethodDescriptor yX4_booked.desc).map (fun d => d.parameters.length) = some 1 := by decide +kernel
theorem w9cd_X4_booked : Cond.code yX4_booked cX4_booked 2 (some .int) ∈ th_T := th_in6 10 (by decide +kernel) rfl
theorem w9im_X4_booked : Cond.instanceMethod yX4_booked ∈ th_T := th_in6 8 (by decide +kernel) rfl
theorem w9se_X4_booked : Cond.selects RX4 yX4_booked yX4_booked ∈ th_T := th_in6 9 (by decide +kernel) rfl
theorem w9ml_147 : Cond.methodLink RL 147 yX3_over ∈ th_T := th_in3 142 (by decide +kernel) rfl
theorem h9_X3_over : yX3_over.cls ≠ "java/lang/invoke/MethodHandle" ∧ yX3_over.cls ≠ "java/lang/invoke/VarHandle" ∧ (parseMethodDescriptor yX3_over.desc).map (fun d => d.parameters.length) = some 0 := by decide +kernel
theorem w9cd_X3_over : Cond.code yX3_over cX3_over 1 (some .int) ∈ th_T := th_in3 145 (by decide +kernel) rfl
theorem w9im_X3_over : Cond.instanceMethod yX3_over ∈ th_T := th_in3 143 (by decide +kernel) rfl
theorem w9se_X3_over : Cond.selects RX3 yX3_over yX3_over ∈ th_T := th_in3 144 (by decide +kernel) rfl
theorem w9ml_150 : Cond.methodLink RL 150 yX4_over ∈ th_T := th_in6 15 (by decide +kernel) rfl
theorem h9_X4_over : yX4_over.cls ≠ "java/lang/invoke/MethodHandle" ∧ yX4_over.cls ≠ "java/lang/invoke/VarHandle" ∧ (parseMethodDescriptor yX4_over.desc).map (fun d => d.parameters.length) = some 0 := by decide +kernel
theorem w9cd_X4_over : Cond.code yX4_over cX4_over 1 (some .int) ∈ th_T := th_in6 18 (by decide +kernel) rfl
theorem w9im_X4_over : Cond.instanceMethod yX4_over ∈ th_T := th_in6 16 (by decide +kernel) rfl
theorem w9se_X4_over : Cond.selects RX4 yX4_over yX4_over ∈ th_T := th_in6 17 (by decide +kernel) rfl
theorem w9ml_151 : Cond.methodLink RL 151 yX3_settling ∈ th_T := th_in3 151 (by decide +kernel) rfl
theorem h9_X3_settling : yX3_settling.cls ≠ "java/lang/invoke/MethodHandle" ∧ yX3_settling.cls ≠ "java/lang/invoke/VarHandle" ∧ (parseMethodDescriptor yX3_settling.desc).map (fun d => d.parameters.length) = some 1 := by decide +kernel
theorem w9cd_X3_settling : Cond.code yX3_settling cX3_settling 5 (some .int) ∈ th_T := th_in3 154 (by decide +kernel) rfl
theorem w9im_X3_settling : Cond.instanceMethod yX3_settling ∈ th_T := th_in3 152 (by decide +kernel) rfl
theorem w9se_X3_settling : Cond.selects RX3 yX3_settling yX3_settling ∈ th_T := th_in3 153 (by decide +kernel) rfl
theorem w9ml_154 : Cond.methodLink RL 154 yX4_settling ∈ th_T := th_in6 23 (by decide +kernel) rfl
theorem h9_X4_settling : yX4_settling.cls ≠ "java/lang/invoke/MethodHandle" ∧ yX4_settling.cls ≠ "java/lang/invoke/VarHandle" ∧ (parseMethodDescriptor yX4_settling.desc).map (fun d => d.parameters.length) = some 1 := by decide +kernel
theorem w9cd_X4_settling : Cond.code yX4_settling cX4_settling 7 (some .int) ∈ th_T := th_in6 26 (by decide +kernel) rfl
theorem w9im_X4_settling : Cond.instanceMethod yX4_settling ∈ th_T := th_in6 24 (by decide +kernel) rfl
theorem w9se_X4_settling : Cond.selects RX4 yX4_settling yX4_settling ∈ th_T := th_in6 25 (by decide +kernel) rfl
theorem w9ml_155 : Cond.methodLink RL 155 yX3_swings ∈ th_T := th_in3 162 (by decide +kernel) rfl
theorem h9_X3_swings : yX3_swings.cls ≠ "java/lang/invoke/MethodHandle" ∧ yX3_swings.cls ≠ "java/lang/invoke/VarHandle" ∧ (parseMethodDescriptor yX3_swings.desc).map (fun d => d.parameters.length) = some 3 := by decide +kernel
theorem w9cd_X3_swings : Cond.code yX3_swings cX3_swings 10 (some .int) ∈ th_T := th_in3 165 (by decide +kernel) rfl
theorem w9im_X3_swings : Cond.instanceMethod yX3_swings ∈ th_T := th_in3 163 (by decide +kernel) rfl
theorem w9se_X3_swings : Cond.selects RX3 yX3_swings yX3_swings ∈ th_T := th_in3 164 (by decide +kernel) rfl
theorem w9ml_158 : Cond.methodLink RL 158 yX4_swings ∈ th_T := th_in6 35 (by decide +kernel) rfl
theorem h9_X4_swings : yX4_swings.cls ≠ "java/lang/invoke/MethodHandle" ∧ yX4_swings.cls ≠ "java/lang/invoke/VarHandle" ∧ (parseMethodDescriptor yX4_swings.desc).map (fun d => d.parameters.length) = some 3 := by decide +kernel
theorem w9cd_X4_swings : Cond.code yX4_swings cX4_swings 10 (some .int) ∈ th_T := th_in6 38 (by decide +kernel) rfl
theorem w9im_X4_swings : Cond.instanceMethod yX4_swings ∈ th_T := th_in6 36 (by decide +kernel) rfl
theorem w9se_X4_swings : Cond.selects RX4 yX4_swings yX4_swings ∈ th_T := th_in6 37 (by decide +kernel) rfl
theorem w9ml_159 : Cond.methodLink RL 159 yX3_peak ∈ th_T := th_in3 171 (by decide +kernel) rfl
theorem h9_X3_peak : yX3_peak.cls ≠ "java/lang/invoke/MethodHandle" ∧ yX3_peak.cls ≠ "java/lang/invoke/VarHandle" ∧ (parseMethodDescriptor yX3_peak.desc).map (fun d => d.parameters.length) = some 2 := by decide +kernel
theorem w9cd_X3_peak : Cond.code yX3_peak cX3_peak 5 (some .int) ∈ th_T := th_in3 174 (by decide +kernel) rfl
theorem w9im_X3_peak : Cond.instanceMethod yX3_peak ∈ th_T := th_in3 172 (by decide +kernel) rfl
theorem w9se_X3_peak : Cond.selects RX3 yX3_peak yX3_peak ∈ th_T := th_in3 173 (by decide +kernel) rfl
theorem w9ml_162 : Cond.methodLink RL 162 yX4_peak ∈ th_T := th_in6 40 (by decide +kernel) rfl
theorem h9_X4_peak : yX4_peak.cls ≠ "java/lang/invoke/MethodHandle" ∧ yX4_peak.cls ≠ "java/lang/invoke/VarHandle" ∧ (parseMethodDescriptor yX4_peak.desc).map (fun d => d.parameters.length) = some 2 := by decide +kernel
theorem w9cd_X4_peak : Cond.code yX4_peak cX4_peak 5 (some .int) ∈ th_T := th_in6 43 (by decide +kernel) rfl
theorem w9im_X4_peak : Cond.instanceMethod yX4_peak ∈ th_T := th_in6 41 (by decide +kernel) rfl
theorem w9se_X4_peak : Cond.selects RX4 yX4_peak yX4_peak ∈ th_T := th_in6 42 (by decide +kernel) rfl
theorem w9ml_163 : Cond.methodLink RL 163 yX3_off ∈ th_T := th_in3 175 (by decide +kernel) rfl
theorem h9_X3_off : yX3_off.cls ≠ "java/lang/invoke/MethodHandle" ∧ yX3_off.cls ≠ "java/lang/invoke/VarHandle" ∧ (parseMethodDescriptor yX3_off.desc).map (fun d => d.parameters.length) = some 0 := by decide +kernel
theorem w9cd_X3_off : Cond.code yX3_off cX3_off 1 (some .long) ∈ th_T := th_in3 178 (by decide +kernel) rfl
theorem w9im_X3_off : Cond.instanceMethod yX3_off ∈ th_T := th_in3 176 (by decide +kernel) rfl
theorem w9se_X3_off : Cond.selects RX3 yX3_off yX3_off ∈ th_T := th_in3 177 (by decide +kernel) rfl
theorem w9ml_167 : Cond.methodLink RL 167 yX4_off ∈ th_T := th_in6 44 (by decide +kernel) rfl
theorem h9_X4_off : yX4_off.cls ≠ "java/lang/invoke/MethodHandle" ∧ yX4_off.cls ≠ "java/lang/invoke/VarHandle" ∧ (parseMethodDescriptor yX4_off.desc).map (fun d => d.parameters.length) = some 0 := by decide +kernel
theorem w9cd_X4_off : Cond.code yX4_off cX4_off 5 (some .long) ∈ th_T := th_in6 47 (by decide +kernel) rfl
theorem w9im_X4_off : Cond.instanceMethod yX4_off ∈ th_T := th_in6 45 (by decide +kernel) rfl
theorem w9se_X4_off : Cond.selects RX4 yX4_off yX4_off ∈ th_T := th_in6 46 (by decide +kernel) rfl
theorem w9ml_168 : Cond.methodLink RL 168 yX3_would ∈ th_T := th_in3 179 (by decide +kernel) rfl
theorem h9_X3_would : yX3_would.cls ≠ "java/lang/invoke/MethodHandle" ∧ yX3_would.cls ≠ "java/lang/invoke/VarHandle" ∧ (parseMethodDescriptor yX3_would.desc).map (fun d => d.parameters.length) = some 4 := by decide +kernel
theorem w9cd_X3_would : Cond.code yX3_would cX3_would 6 (some .int) ∈ th_T := th_in3 182 (by decide +kernel) rfl
theorem w9im_X3_would : Cond.instanceMethod yX3_would ∈ th_T := th_in3 180 (by decide +kernel) rfl
theorem w9se_X3_would : Cond.selects RX3 yX3_would yX3_would ∈ th_T := th_in3 181 (by decide +kernel) rfl
theorem w9ml_172 : Cond.methodLink RL 172 yX4_would ∈ th_T := th_in6 48 (by decide +kernel) rfl
theorem h9_X4_would : yX4_would.cls ≠ "java/lang/invoke/MethodHandle" ∧ yX4_would.cls ≠ "java/lang/invoke/VarHandle" ∧ (parseMethodDescriptor yX4_would.desc).map (fun d => d.parameters.length) = some 4 := by decide +kernel
theorem w9cd_X4_would : Cond.code yX4_would cX4_would 7 (some .int) ∈ th_T := th_in6 51 (by decide +kernel) rfl
theorem w9im_X4_would : Cond.instanceMethod yX4_would ∈ th_T := th_in6 49 (by decide +kernel) rfl
theorem w9se_X4_would : Cond.selects RX4 yX4_would yX4_would ∈ th_T := th_in6 50 (by decide +kernel) rfl
theorem w9ml_173 : Cond.methodLink RL 173 yX3_better ∈ th_T := th_in3 189 (by decide +kernel) rfl
theorem h9_X3_better : yX3_better.cls ≠ "java/lang/invoke/MethodHandle" ∧ yX3_better.cls ≠ "java/lang/invoke/VarHandle" ∧ (parseMethodDescriptor yX3_better.desc).map (fun d => d.parameters.length) = some 2 := by decide +kernel
theorem w9cd_X3_better : Cond.code yX3_better cX3_better 4 (some .int) ∈ th_T := th_in3 192 (by decide +kernel) rfl
theorem w9im_X3_better : Cond.instanceMethod yX3_better ∈ th_T := th_in3 190 (by decide +kernel) rfl
theorem w9se_X3_better : Cond.selects RX3 yX3_better yX3_better ∈ th_T := th_in3 191 (by decide +kernel) rfl
theorem w9ml_176 : Cond.methodLink RL 176 yX4_better ∈ th_T := th_in6 52 (by decide +kernel) rfl
theorem h9_X4_better : yX4_better.cls ≠ "java/lang/invoke/MethodHandle" ∧ yX4_better.cls ≠ "java/lang/invoke/VarHandle" ∧ (parseMethodDescriptor yX4_better.desc).map (fun d => d.parameters.length) = some 2 := by decide +kernel
theorem w9cd_X4_better : Cond.code yX4_better cX4_better 5 (some .int) ∈ th_T := th_in6 55 (by decide +kernel) rfl
theorem w9im_X4_better : Cond.instanceMethod yX4_better ∈ th_T := th_in6 53 (by decide +kernel) rfl
theorem w9se_X4_better : Cond.selects RX4 yX4_better yX4_better ∈ th_T := th_in6 54 (by decide +kernel) rfl
theorem w9ml_177 : Cond.methodLink RL 177 yX3_spares ∈ th_T := th_in3 194 (by decide +kernel) rfl
theorem h9_X3_spares : yX3_spares.cls ≠ "java/lang/invoke/MethodHandle" ∧ yX3_spares.cls ≠ "java/lang/invoke/VarHandle" ∧ (parseMethodDescriptor yX3_spares.desc).map (fun d => d.parameters.length) = some 2 := by decide +kernel
theorem w9cd_X3_spares : Cond.code yX3_spares cX3_spares 4 (some .int) ∈ th_T := th_in3 197 (by decide +kernel) rfl
theorem w9im_X3_spares : Cond.instanceMethod yX3_spares ∈ th_T := th_in3 195 (by decide +kernel) rfl
theorem w9se_X3_spares : Cond.selects RX3 yX3_spares yX3_spares ∈ th_T := th_in3 196 (by decide +kernel) rfl
theorem w9ml_180 : Cond.methodLink RL 180 yX4_spares ∈ th_T := th_in6 56 (by decide +kernel) rfl
theorem h9_X4_spares : yX4_spares.cls ≠ "java/lang/invoke/MethodHandle" ∧ yX4_spares.cls ≠ "java/lang/invoke/VarHandle" ∧ (parseMethodDescriptor yX4_spares.desc).map (fun d => d.parameters.length) = some 2 := by decide +kernel
theorem w9cd_X4_spares : Cond.code yX4_spares cX4_spares 5 (some .int) ∈ th_T := th_in6 59 (by decide +kernel) rfl
theorem w9im_X4_spares : Cond.instanceMethod yX4_spares ∈ th_T := th_in6 57 (by decide +kernel) rfl
theorem w9se_X4_spares : Cond.selects RX4 yX4_spares yX4_spares ∈ th_T := th_in6 58 (by decide +kernel) rfl
theorem w9ml_181 : Cond.methodLink RL 181 yX3_weightFor ∈ th_T := th_in3 199 (by decide +kernel) rfl
theorem h9_X3_weightFor : yX3_weightFor.cls ≠ "java/lang/invoke/MethodHandle" ∧ yX3_weightFor.cls ≠ "java/lang/invoke/VarHandle" ∧ (parseMethodDescriptor yX3_weightFor.desc).map (fun d => d.parameters.length) = some 2 := by decide +kernel
theorem w9cd_X3_weightFor : Cond.code yX3_weightFor cX3_weightFor 5 (some .int) ∈ th_T := th_in3 202 (by decide +kernel) rfl
theorem w9im_X3_weightFor : Cond.instanceMethod yX3_weightFor ∈ th_T := th_in3 200 (by decide +kernel) rfl
theorem w9se_X3_weightFor : Cond.selects RX3 yX3_weightFor yX3_weightFor ∈ th_T := th_in3 201 (by decide +kernel) rfl
theorem w9ml_184 : Cond.methodLink RL 184 yX4_weightFor ∈ th_T := th_in6 61 (by decide +kernel) rfl
theorem h9_X4_weightFor : yX4_weightFor.cls ≠ "java/lang/invoke/MethodHandle" ∧ yX4_weightFor.cls ≠ "java/lang/invoke/VarHandle" ∧ (parseMethodDescriptor yX4_weightFor.desc).map (fun d => d.parameters.length) = some 2 := by decide +kernel
theorem w9cd_X4_weightFor : Cond.code yX4_weightFor cX4_weightFor 5 (some .int) ∈ th_T := th_in6 64 (by decide +kernel) rfl
theorem w9im_X4_weightFor : Cond.instanceMethod yX4_weightFor ∈ th_T := th_in6 62 (by decide +kernel) rfl
theorem w9se_X4_weightFor : Cond.selects RX4 yX4_weightFor yX4_weightFor ∈ th_T := th_in6 63 (by decide +kernel) rfl
theorem w9ml_185 : Cond.methodLink RL 185 yX3_roomFor ∈ th_T := th_in3 203 (by decide +kernel) rfl
theorem h9_X3_roomFor : yX3_roomFor.cls ≠ "java/lang/invoke/MethodHandle" ∧ yX3_roomFor.cls ≠ "java/lang/invoke/VarHandle" ∧ (parseMethodDescriptor yX3_roomFor.desc).map (fun d => d.parameters.length) = some 1 := by decide +kernel
theorem w9cd_X3_roomFor : Cond.code yX3_roomFor cX3_roomFor 4 (some .int) ∈ th_T := th_in3 206 (by decide +kernel) rfl
theorem w9im_X3_roomFor : Cond.instanceMethod yX3_roomFor ∈ th_T := th_in3 204 (by decide +kernel) rfl
theorem w9se_X3_roomFor : Cond.selects RX3 yX3_roomFor yX3_roomFor ∈ th_T := th_in3 205 (by decide +kernel) rfl
theorem w9ml_188 : Cond.methodLink RL 188 yX4_roomFor ∈ th_T := th_in6 65 (by decide +kernel) rfl
theorem h9_X4_roomFor : yX4_roomFor.cls ≠ "java/lang/invoke/MethodHandle" ∧ yX4_roomFor.cls ≠ "java/lang/invoke/VarHandle" ∧ (parseMethodDescriptor yX4_roomFor.desc).map (fun d => d.parameters.length) = some 1 := by decide +kernel
theorem w9cd_X4_roomFor : Cond.code yX4_roomFor cX4_roomFor 2 (some .int) ∈ th_T := th_in6 68 (by decide +kernel) rfl
theorem w9im_X4_roomFor : Cond.instanceMethod yX4_roomFor ∈ th_T := th_in6 66 (by decide +kernel) rfl
theorem w9se_X4_roomFor : Cond.selects RX4 yX4_roomFor yX4_roomFor ∈ th_T := th_in6 67 (by decide +kernel) rfl
theorem w9ml_189 : Cond.methodLink RL 189 yX3_touched ∈ th_T := th_in3 207 (by decide +kernel) rfl
theorem h9_X3_touched : yX3_touched.cls ≠ "java/lang/invoke/MethodHandle" ∧ yX3_touched.cls ≠ "java/lang/invoke/VarHandle" ∧ (parseMethodDescriptor yX3_touched.desc).map (fun d => d.parameters.length) = some 1 := by decide +kernel
theorem w9cd_X3_touched : Cond.code yX3_touched cX3_touched 2 (some .int) ∈ th_T := th_in3 210 (by decide +kernel) rfl
theorem w9im_X3_touched : Cond.instanceMethod yX3_touched ∈ th_T := th_in3 208 (by decide +kernel) rfl
theorem w9se_X3_touched : Cond.selects RX3 yX3_touched yX3_touched ∈ th_T := th_in3 209 (by decide +kernel) rfl
theorem w9ml_192 : Cond.methodLink RL 192 yX4_touched ∈ th_T := th_in6 69 (by decide +kernel) rfl
theorem h9_X4_touched : yX4_touched.cls ≠ "java/lang/invoke/MethodHandle" ∧ yX4_touched.cls ≠ "java/lang/invoke/VarHandle" ∧ (parseMethodDescriptor yX4_touched.desc).map (fun d => d.parameters.length) = some 1 := by decide +kernel
theorem w9cd_X4_touched : Cond.code yX4_touched cX4_touched 2 (some .int) ∈ th_T := th_in6 72 (by decide +kernel) rfl
theorem w9im_X4_touched : Cond.instanceMethod yX4_touched ∈ th_T := th_in6 70 (by decide +kernel) rfl
theorem w9se_X4_touched : Cond.selects RX4 yX4_touched yX4_touched ∈ th_T := th_in6 71 (by decide +kernel) rfl
theorem w9ml_193 : Cond.methodLink RL 193 yX3_without ∈ th_T := th_in3 215 (by decide +kernel) rfl
theorem h9_X3_without : yX3_without.cls ≠ "java/lang/invoke/MethodHandle" ∧ yX3_without.cls ≠ "java/lang/invoke/VarHandle" ∧ (parseMethodDescriptor yX3_without.desc).map (fun d => d.parameters.length) = some 2 := by decide +kernel
theorem w9cd_X3_without : Cond.code yX3_without cX3_without 3 (some .int) ∈ th_T := th_in3 218 (by decide +kernel) rfl
theorem w9im_X3_without : Cond.instanceMethod yX3_without ∈ th_T := th_in3 216 (by decide +kernel) rfl
theorem w9se_X3_without : Cond.selects RX3 yX3_without yX3_without ∈ th_T := th_in3 217 (by decide +kernel) rfl
theorem w9ml_196 : Cond.methodLink RL 196 yX4_without ∈ th_T := th_in6 81 (by decide +kernel) rfl
theorem h9_X4_without : yX4_without.cls ≠ "java/lang/invoke/MethodHandle" ∧ yX4_without.cls ≠ "java/lang/invoke/VarHandle" ∧ (parseMethodDescriptor yX4_without.desc).map (fun d => d.parameters.length) = some 2 := by decide +kernel
theorem w9cd_X4_without : Cond.code yX4_without cX4_without 5 (some .int) ∈ th_T := th_in6 84 (by decide +kernel) rfl
theorem w9im_X4_without : Cond.instanceMethod yX4_without ∈ th_T := th_in6 82 (by decide +kernel) rfl
theorem w9se_X4_without : Cond.selects RX4 yX4_without yX4_without ∈ th_T := th_in6 83 (by decide +kernel) rfl
theorem w9ml_197 : Cond.methodLink RL 197 yX3_wider ∈ th_T := th_in3 220 (by decide +kernel) rfl
theorem h9_X3_wider : yX3_wider.cls ≠ "java/lang/invoke/MethodHandle" ∧ yX3_wider.cls ≠ "java/lang/invoke/VarHandle" ∧ (parseMethodDescriptor yX3_wider.desc).map (fun d => d.parameters.length) = some 3 := by decide +kernel
theorem w9cd_X3_wider : Cond.code yX3_wider cX3_wider 4 (some .int) ∈ th_T := th_in3 223 (by decide +kernel) rfl
theorem w9im_X3_wider : Cond.instanceMethod yX3_wider ∈ th_T := th_in3 221 (by decide +kernel) rfl
theorem w9se_X3_wider : Cond.selects RX3 yX3_wider yX3_wider ∈ th_T := th_in3 222 (by decide +kernel) rfl
theorem w9ml_200 : Cond.methodLink RL 200 yX4_wider ∈ th_T := th_in6 85 (by decide +kernel) rfl
theorem h9_X4_wider : yX4_wider.cls ≠ "java/lang/invoke/MethodHandle" ∧ yX4_wider.cls ≠ "java/lang/invoke/VarHandle" ∧ (parseMethodDescriptor yX4_wider.desc).map (fun d => d.parameters.length) = some 3 := by decide +kernel
theorem w9cd_X4_wider : Cond.code yX4_wider cX4_wider 7 (some .int) ∈ th_T := th_in6 88 (by decide +kernel) rfl
theorem w9im_X4_wider : Cond.instanceMethod yX4_wider ∈ th_T := th_in6 86 (by decide +kernel) rfl
theorem w9se_X4_wider : Cond.selects RX4 yX4_wider yX4_wider ∈ th_T := th_in6 87 (by decide +kernel) rfl
theorem w9ml_201 : Cond.methodLink RL 201 yX3_tight ∈ th_T := th_in3 228 (by decide +kernel) rfl
theorem h9_X3_tight : yX3_tight.cls ≠ "java/lang/invoke/MethodHandle" ∧ yX3_tight.cls ≠ "java/lang/invoke/VarHandle" ∧ (parseMethodDescriptor yX3_tight.desc).map (fun d => d.parameters.length) = some 0 := by decide +kernel
theorem w9cd_X3_tight : Cond.code yX3_tight cX3_tight 4 (some .int) ∈ th_T := th_in3 231 (by decide +kernel) rfl
theorem w9im_X3_tight : Cond.instanceMethod yX3_tight ∈ th_T := th_in3 229 (by decide +kernel) rfl
theorem w9se_X3_tight : Cond.selects RX3 yX3_tight yX3_tight ∈ th_T := th_in3 230 (by decide +kernel) rfl
theorem w9ml_204 : Cond.methodLink RL 204 yX4_tight ∈ th_T := th_in6 89 (by decide +kernel) rfl
theorem h9_X4_tight : yX4_tight.cls ≠ "java/lang/invoke/MethodHandle" ∧ yX4_tight.cls ≠ "java/lang/invoke/VarHandle" ∧ (parseMethodDescriptor yX4_tight.desc).map (fun d => d.parameters.length) = some 0 := by decide +kernel
theorem w9cd_X4_tight : Cond.code yX4_tight cX4_tight 5 (some .int) ∈ th_T := th_in6 92 (by decide +kernel) rfl
theorem w9im_X4_tight : Cond.instanceMethod yX4_tight ∈ th_T := th_in6 90 (by decide +kernel) rfl
theorem w9se_X4_tight : Cond.selects RX4 yX4_tight yX4_tight ∈ th_T := th_in6 91 (by decide +kernel) rfl
theorem w9ml_205 : Cond.methodLink RL 205 yX3_enough ∈ th_T := th_in3 232 (by decide +kernel) rfl
theorem h9_X3_enough : yX3_enough.cls ≠ "java/lang/invoke/MethodHandle" ∧ yX3_enough.cls ≠ "java/lang/invoke/VarHandle" ∧ (parseMethodDescriptor yX3_enough.desc).map (fun d => d.parameters.length) = some 1 := by decide +kernel
theorem w9cd_X3_enough : Cond.code yX3_enough cX3_enough 7 (some .int) ∈ th_T := th_in3 235 (by decide +kernel) rfl
theorem w9im_X3_enough : Cond.instanceMethod yX3_enough ∈ th_T := th_in3 233 (by decide +kernel) rfl
theorem w9se_X3_enough : Cond.selects RX3 yX3_enough yX3_enough ∈ th_T := th_in3 234 (by decide +kernel) rfl
theorem w9ml_208 : Cond.methodLink RL 208 yX4_enough ∈ th_T := th_in6 93 (by decide +kernel) rfl
theorem h9_X4_enough : yX4_enough.cls ≠ "java/lang/invoke/MethodHandle" ∧ yX4_enough.cls ≠ "java/lang/invoke/VarHandle" ∧ (parseMethodDescriptor yX4_enough.desc).map (fun d => d.parameters.length) = some 1 := by decide +kernel
theorem w9cd_X4_enough : Cond.code yX4_enough cX4_enough 5 (some .int) ∈ th_T := th_in6 96 (by decide +kernel) rfl
theorem w9im_X4_enough : Cond.instanceMethod yX4_enough ∈ th_T := th_in6 94 (by decide +kernel) rfl
theorem w9se_X4_enough : Cond.selects RX4 yX4_enough yX4_enough ∈ th_T := th_in6 95 (by decide +kernel) rfl
theorem w9ml_209 : Cond.methodLink RL 209 yX3_storm ∈ th_T := th_in3 236 (by decide +kernel) rfl
theorem h9_X3_storm : yX3_storm.cls ≠ "java/lang/invoke/MethodHandle" ∧ yX3_storm.cls ≠ "java/lang/invoke/VarHandle" ∧ (parseMethodDescriptor yX3_storm.desc).map (fun d => d.parameters.length) = some 3 := by decide +kernel
theorem w9cd_X3_storm : Cond.code yX3_storm cX3_storm 8 (some .int) ∈ th_T := th_in3 239 (by decide +kernel) rfl
theorem w9im_X3_storm : Cond.instanceMethod yX3_storm ∈ th_T := th_in3 237 (by decide +kernel) rfl
theorem w9se_X3_storm : Cond.selects RX3 yX3_storm yX3_storm ∈ th_T := th_in3 238 (by decide +kernel) rfl
theorem w9ml_212 : Cond.methodLink RL 212 yX4_storm ∈ th_T := th_in6 97 (by decide +kernel) rfl
theorem h9_X4_storm : yX4_storm.cls ≠ "java/lang/invoke/MethodHandle" ∧ yX4_storm.cls ≠ "java/lang/invoke/VarHandle" ∧ (parseMethodDescriptor yX4_storm.desc).map (fun d => d.parameters.length) = some 3 := by decide +kernel
theorem w9cd_X4_storm : Cond.code yX4_storm cX4_storm 8 (some .int) ∈ th_T := th_in6 100 (by decide +kernel) rfl
theorem w9im_X4_storm : Cond.instanceMethod yX4_storm ∈ th_T := th_in6 98 (by decide +kernel) rfl
theorem w9se_X4_storm : Cond.selects RX4 yX4_storm yX4_storm ∈ th_T := th_in6 99 (by decide +kernel) rfl
theorem w9ml_213 : Cond.methodLink RL 213 yX3_count ∈ th_T := th_in4 16 (by decide +kernel) rfl
theorem h9_X3_count : yX3_count.cls ≠ "java/lang/invoke/MethodHandle" ∧ yX3_count.cls ≠ "java/lang/invoke/VarHandle" ∧ (parseMethodDescriptor yX3_count.desc).map (fun d => d.parameters.length) = some 1 := by decide +kernel
theorem w9cd_X3_count : Cond.code yX3_count cX3_count 2 (some .int) ∈ th_T := th_in4 19 (by decide +kernel) rfl
theorem w9im_X3_count : Cond.instanceMethod yX3_count ∈ th_T := th_in4 17 (by decide +kernel) rfl
theorem w9se_X3_count : Cond.selects RX3 yX3_count yX3_count ∈ th_T := th_in4 18 (by decide +kernel) rfl
theorem w9ml_216 : Cond.methodLink RL 216 yX4_count ∈ th_T := th_in6 117 (by decide +kernel) rfl
theorem h9_X4_count : yX4_count.cls ≠ "java/lang/invoke/MethodHandle" ∧ yX4_count.cls ≠ "java/lang/invoke/VarHandle" ∧ (parseMethodDescriptor yX4_count.desc).map (fun d => d.parameters.length) = some 1 := by decide +kernel
theorem w9cd_X4_count : Cond.code yX4_count cX4_count 2 (some .int) ∈ th_T := th_in6 120 (by decide +kernel) rfl
theorem w9im_X4_count : Cond.instanceMethod yX4_count ∈ th_T := th_in6 118 (by decide +kernel) rfl
theorem w9se_X4_count : Cond.selects RX4 yX4_count yX4_count ∈ th_T := th_in6 119 (by decide +kernel) rfl
theorem dth_flow : th_dec cL_flow (hp_tb 7) = true := by decide +kernel
theorem dth_fair : th_dec cL_fair (hp_tb 15) = true := by decide +kernel
theorem dth_proof : th_dec cL_proof (hp_tb 18) = true := by decide +kernel
