theorem pdq_16 : (parseMethodDescriptor "(LLinearTruths$Sum;I)V").map (fun d => d.parameters.length) = some 2 := by decide +kernel
theorem pdq_17 : (parseMethodDescriptor "()Z").map (fun d => d.parameters.length) = some 0 := by decide +kernel
theorem ncq_5 : "LinearTruths$Reader" ≠ "java/lang/invoke/MethodHandle" ∧ "LinearTruths$Reader" ≠ "java/lang/invoke/VarHandle" := by decide +kernel
theorem pdq_18 : (parseMethodDescriptor "(I)Z").map (fun d => d.parameters.length) = some 1 := by decide +kernel
theorem pdq_19 : (parseMethodDescriptor "(IJ)V").map (fun d => d.parameters.length) = some 2 := by decide +kernel
theorem inW_X2 : ∀ w ∈ u_ws RX2 TX2 10, w ∈ W0 := q_ls [(1, 107), (1, 109), (1, 111), (1, 113), (1, 115), (1, 117), (1, 119), (1, 121), (1, 123), (1, 125)] (by decide +kernel) (by decide +kernel)
theorem wm_165 : (Cond.fieldLink "LinearTruths$Reader" 9 "LinearTruths$Reader" "bytes" "[B") ∈ W0 := q_l 1 95 (by decide +kernel) (by decide +kernel)
theorem wm_166 : (Cond.fieldLink "LinearTruths$Reader" 20 "LinearTruths$Reader" "bench" "LLinearTruths$Bench;") ∈ W0 := q_l 1 96 (by decide +kernel) (by decide +kernel)
theorem wm_168 : (Cond.fieldLink "LinearTruths$Reader" 27 "LinearTruths$Reader" "sum" "LLinearTruths$Sum;") ∈ W0 := q_l 1 98 (by decide +kernel) (by decide +kernel)
theorem wm_169 : (Cond.fieldLink "LinearTruths$Reader" 31 "LinearTruths$Reader" "waiting" "[I") ∈ W0 := q_l 1 99 (by decide +kernel) (by decide +kernel)
theorem wm_170 : (Cond.fieldLink "LinearTruths$Reader" 35 "LinearTruths$Reader" "length" "I") ∈ W0 := q_l 1 100 (by decide +kernel) (by decide +kernel)
theorem wm_172 : (Cond.fieldLink "LinearTruths$Reader" 42 "LinearTruths$Reader" "waits" "I") ∈ W0 := q_l 1 102 (by decide +kernel) (by decide +kernel)
theorem wm_173 : (Cond.fieldLink "LinearTruths$Reader" 45 "LinearTruths$Reader" "at" "I") ∈ W0 := q_l 1 103 (by decide +kernel) (by decide +kernel)
theorem wm_174 : (Cond.fieldLink "LinearTruths$Reader" 48 "LinearTruths$Reader" "opened" "I") ∈ W0 := q_l 1 104 (by decide +kernel) (by decide +kernel)
theorem wm_175 : (Cond.fieldLink "LinearTruths$Reader" 51 "LinearTruths$Reader" "parens" "I") ∈ W0 := q_l 1 105 (by decide +kernel) (by decide +kernel)
theorem wm_176 : (Cond.fieldLink "LinearTruths$Reader" 54 "LinearTruths$Reader" "great" "Z") ∈ W0 := q_l 1 106 (by decide +kernel) (by decide +kernel)
theorem wm_626 : (Cond.methodLink "LinearTruths$Reader" 39 yX0_begin) ∈ W0 := q_l 3 76 (by decide +kernel) (by decide +kernel)
theorem wm_634 : (Cond.methodLink "LinearTruths$Reader" 58 yX2_openings) ∈ W0 := q_l 3 84 (by decide +kernel) (by decide +kernel)
theorem wm_638 : (Cond.methodLink "LinearTruths$Reader" 75 yX2_nextLetter) ∈ W0 := q_l 3 88 (by decide +kernel) (by decide +kernel)
theorem wm_642 : (Cond.methodLink "LinearTruths$Reader" 104 yX2_letterAt) ∈ W0 := q_l 3 92 (by decide +kernel) (by decide +kernel)
theorem wm_646 : (Cond.methodLink "LinearTruths$Reader" 78 yX2_await) ∈ W0 := q_l 3 96 (by decide +kernel) (by decide +kernel)
theorem wm_650 : (Cond.methodLink "LinearTruths$Reader" 81 yX2_binder) ∈ W0 := q_l 3 100 (by decide +kernel) (by decide +kernel)
theorem wm_654 : (Cond.methodLink "LinearTruths$Reader" 85 yX2_variableOf) ∈ W0 := q_l 3 104 (by decide +kernel) (by decide +kernel)
theorem wm_657 : (Cond.methodLink "LinearTruths$Reader" 62 yX2_plainUnit) ∈ W0 := q_l 3 107 (by decide +kernel) (by decide +kernel)
theorem wm_661 : (Cond.methodLink "LinearTruths$Reader" 89 yX0_push) ∈ W0 := q_l 3 111 (by decide +kernel) (by decide +kernel)
theorem wm_670 : (Cond.methodLink "LinearTruths$Reader" 92 yX2_atom) ∈ W0 := q_l 3 120 (by decide +kernel) (by decide +kernel)
theorem wm_674 : (Cond.methodLink "LinearTruths$Reader" 126 yX4_empty) ∈ W0 := q_l 3 124 (by decide +kernel) (by decide +kernel)
theorem wm_681 : (Cond.methodLink "LinearTruths$Reader" 129 yX2_side) ∈ W0 := q_l 3 131 (by decide +kernel) (by decide +kernel)
theorem wm_685 : (Cond.methodLink "LinearTruths$Reader" 145 yX2_item) ∈ W0 := q_l 3 135 (by decide +kernel) (by decide +kernel)
theorem wm_689 : (Cond.constantLong "LinearTruths$Reader" 148 27720) ∈ W0 := q_l 3 139 (by decide +kernel) (by decide +kernel)
theorem wm_690 : (Cond.methodLink "LinearTruths$Reader" 150 yX4_add) ∈ W0 := q_l 3 140 (by decide +kernel) (by decide +kernel)
theorem wm_694 : (Cond.methodLink "LinearTruths$Reader" 154 yX2_digitOf) ∈ W0 := q_l 3 144 (by decide +kernel) (by decide +kernel)
theorem wm_697 : (Cond.methodLink "LinearTruths$Reader" 157 yX2_wholeNumber) ∈ W0 := q_l 3 147 (by decide +kernel) (by decide +kernel)
theorem wm_701 : (Cond.methodLink "LinearTruths$Reader" 160 yX2_numberBelow) ∈ W0 := q_l 3 151 (by decide +kernel) (by decide +kernel)
theorem wm_705 : (Cond.methodLink "LinearTruths$Reader" 132 yX4_turn) ∈ W0 := q_l 3 155 (by decide +kernel) (by decide +kernel)
theorem wm_709 : (Cond.methodLink "LinearTruths$Reader" 135 yX2_pushAtom) ∈ W0 := q_l 3 159 (by decide +kernel) (by decide +kernel)
theorem wm_713 : (Cond.methodLink "LinearTruths$Reader" 138 yX4_settle) ∈ W0 := q_l 3 163 (by decide +kernel) (by decide +kernel)
theorem wm_729 : (Cond.methodLink "LinearTruths$Reader" 141 yX0_pushSettled) ∈ W0 := q_l 3 179 (by decide +kernel) (by decide +kernel)
theorem wm_741 : (Cond.methodLink "LinearTruths$Reader" 65 yX2_endings) ∈ W0 := q_l 3 191 (by decide +kernel) (by decide +kernel)
theorem wm_745 : (Cond.methodLink "LinearTruths$Reader" 95 yX2_carryOut) ∈ W0 := q_l 3 195 (by decide +kernel) (by decide +kernel)
theorem wm_749 : (Cond.methodLink "LinearTruths$Reader" 107 yX2_tightness) ∈ W0 := q_l 3 199 (by decide +kernel) (by decide +kernel)
theorem wm_752 : (Cond.methodLink "LinearTruths$Reader" 110 yX2_carryOutOne) ∈ W0 := q_l 3 202 (by decide +kernel) (by decide +kernel)
theorem wm_756 : (Cond.methodLink "LinearTruths$Reader" 114 yX0_join) ∈ W0 := q_l 3 206 (by decide +kernel) (by decide +kernel)
theorem wm_777 : (Cond.methodLink "LinearTruths$Reader" 117 yX0_negateLastButOne) ∈ W0 := q_l 3 227 (by decide +kernel) (by decide +kernel)
theorem wm_786 : (Cond.methodLink "LinearTruths$Reader" 120 yX0_negateLast) ∈ W0 := q_l 3 236 (by decide +kernel) (by decide +kernel)
theorem wm_790 : (Cond.methodLink "LinearTruths$Reader" 123 yX0_bind) ∈ W0 := q_l 4 0 (by decide +kernel) (by decide +kernel)
theorem wm_794 : (Cond.methodLink "LinearTruths$Reader" 98 yJ9_max_7cf53) ∈ W0 := q_l 4 4 (by decide +kernel) (by decide +kernel)
theorem wm_795 : (Cond.methodLink "LinearTruths$Reader" 68 yX2_finish) ∈ W0 := q_l 4 5 (by decide +kernel) (by decide +kernel)
theorem wm_799 : (Cond.methodLink "LinearTruths$Reader" 72 yX2_connective) ∈ W0 := q_l 4 9 (by decide +kernel) (by decide +kernel)
theorem cv_X0_begin : Cv RX0 yX0_begin cX0_begin 1 none 0 := ⟨q_l 3 77 (by decide +kernel) (by decide +kernel), q_l 3 78 (by decide +kernel) (by decide +kernel), q_l 1 3 (by decide +kernel) (by decide +kernel), q_l 3 79 rfl (by decide +kernel), ⟨rfl, ncq_3.1, ncq_3.2, pdq_5⟩⟩
theorem cv_X0_bind : Cv RX0 yX0_bind cX0_bind 3 none 2 := ⟨q_l 4 1 (by decide +kernel) (by decide +kernel), q_l 4 2 (by decide +kernel) (by decide +kernel), q_l 1 3 (by decide +kernel) (by decide +kernel), q_l 4 3 rfl (by decide +kernel), ⟨rfl, ncq_3.1, ncq_3.2, pdq_11⟩⟩
theorem cv_X0_join : Cv RX0 yX0_join cX0_join 8 none 1 := ⟨q_l 3 207 (by decide +kernel) (by decide +kernel), q_l 3 208 (by decide +kernel) (by decide +kernel), q_l 1 3 (by decide +kernel) (by decide +kernel), q_l 3 209 rfl (by decide +kernel), ⟨rfl, ncq_3.1, ncq_3.2, pdq_9⟩⟩
theorem cv_X0_negateLast : Cv RX0 yX0_negateLast cX0_negateLast 1 none 0 := ⟨q_l 3 237 (by decide +kernel) (by decide +kernel), q_l 3 238 (by decide +kernel) (by decide +kernel), q_l 1 3 (by decide +kernel) (by decide +kernel), q_l 3 239 rfl (by decide +kernel), ⟨rfl, ncq_3.1, ncq_3.2, pdq_5⟩⟩
theorem cv_X0_negateLastButOne : Cv RX0 yX0_negateLastButOne cX0_negateLastButOne 1 none 0 := ⟨q_l 3 228 (by decide +kernel) (by decide +kernel), q_l 3 229 (by decide +kernel) (by decide +kernel), q_l 1 3 (by decide +kernel) (by decide +kernel), q_l 3 230 rfl (by decide +kernel), ⟨rfl, ncq_3.1, ncq_3.2, pdq_5⟩⟩
theorem cv_X0_push : Cv RX0 yX0_push cX0_push 2 none 1 := ⟨q_l 3 112 (by decide +kernel) (by decide +kernel), q_l 3 113 (by decide +kernel) (by decide +kernel), q_l 1 3 (by decide +kernel) (by decide +kernel), q_l 3 114 rfl (by decide +kernel), ⟨rfl, ncq_3.1, ncq_3.2, pdq_9⟩⟩
theorem cv_X0_pushSettled : Cv RX0 yX0_pushSettled cX0_pushSettled 5 none 2 := ⟨q_l 3 180 (by decide +kernel) (by decide +kernel), q_l 3 181 (by decide +kernel) (by decide +kernel), q_l 1 3 (by decide +kernel) (by decide +kernel), q_l 3 182 rfl (by decide +kernel), ⟨rfl, ncq_3.1, ncq_3.2, pdq_16⟩⟩
theorem cv_X2_atom : Cv RX2 yX2_atom cX2_atom 3 (some .boolean) 0 := ⟨q_l 3 122 (by decide +kernel) (by decide +kernel), q_l 0 8 (by decide +kernel) (by decide +kernel), q_l 1 2 (by decide +kernel) (by decide +kernel), q_l 3 123 rfl (by decide +kernel), ⟨rfl, ncq_5.1, ncq_5.2, pdq_17⟩⟩
theorem cv_X2_await : Cv RX2 yX2_await cX2_await 2 none 1 := ⟨q_l 3 98 (by decide +kernel) (by decide +kernel), q_l 0 4 (by decide +kernel) (by decide +kernel), q_l 1 2 (by decide +kernel) (by decide +kernel), q_l 3 99 rfl (by decide +kernel), ⟨rfl, ncq_5.1, ncq_5.2, pdq_9⟩⟩
theorem cv_X2_binder : Cv RX2 yX2_binder cX2_binder 3 (some .boolean) 1 := ⟨q_l 3 102 (by decide +kernel) (by decide +kernel), q_l 0 5 (by decide +kernel) (by decide +kernel), q_l 1 2 (by decide +kernel) (by decide +kernel), q_l 3 103 rfl (by decide +kernel), ⟨rfl, ncq_5.1, ncq_5.2, pdq_18⟩⟩
theorem cv_X2_carryOut : Cv RX2 yX2_carryOut cX2_carryOut 5 none 1 := ⟨q_l 3 197 (by decide +kernel) (by decide +kernel), q_l 0 16 (by decide +kernel) (by decide +kernel), q_l 1 2 (by decide +kernel) (by decide +kernel), q_l 3 198 rfl (by decide +kernel), ⟨rfl, ncq_5.1, ncq_5.2, pdq_9⟩⟩
theorem cv_X2_carryOutOne : Cv RX2 yX2_carryOutOne cX2_carryOutOne 3 none 2 := ⟨q_l 3 204 (by decide +kernel) (by decide +kernel), q_l 0 17 (by decide +kernel) (by decide +kernel), q_l 1 2 (by decide +kernel) (by decide +kernel), q_l 3 205 rfl (by decide +kernel), ⟨rfl, ncq_5.1, ncq_5.2, pdq_11⟩⟩
theorem cv_X2_connective : Cv RX2 yX2_connective cX2_connective 2 (some .boolean) 0 := ⟨q_l 4 11 (by decide +kernel) (by decide +kernel), q_l 0 19 (by decide +kernel) (by decide +kernel), q_l 1 2 (by decide +kernel) (by decide +kernel), q_l 4 12 rfl (by decide +kernel), ⟨rfl, ncq_5.1, ncq_5.2, pdq_17⟩⟩
theorem cs_X2_digitOf : Cs yX2_digitOf cX2_digitOf 1 (some .int) 1 := ⟨q_l 3 145 (by decide +kernel) (by decide +kernel), q_l 1 2 (by decide +kernel) (by decide +kernel), q_l 3 146 rfl (by decide +kernel), ⟨ncq_5.1, ncq_5.2, pdq_10⟩⟩
theorem cv_X2_endings : Cv RX2 yX2_endings cX2_endings 2 (some .boolean) 0 := ⟨q_l 3 193 (by decide +kernel) (by decide +kernel), q_l 0 15 (by decide +kernel) (by decide +kernel), q_l 1 2 (by decide +kernel) (by decide +kernel), q_l 3 194 rfl (by decide +kernel), ⟨rfl, ncq_5.1, ncq_5.2, pdq_17⟩⟩
theorem cv_X2_finish : Cv RX2 yX2_finish cX2_finish 1 (some .int) 0 := ⟨q_l 4 7 (by decide +kernel) (by decide +kernel), q_l 0 18 (by decide +kernel) (by decide +kernel), q_l 1 2 (by decide +kernel) (by decide +kernel), q_l 4 8 rfl (by decide +kernel), ⟨rfl, ncq_5.1, ncq_5.2, pdq_8⟩⟩
theorem cv_X2_item : Cv RX2 yX2_item cX2_item 6 (some .boolean) 1 := ⟨q_l 3 137 (by decide +kernel) (by decide +kernel), q_l 0 10 (by decide +kernel) (by decide +kernel), q_l 1 2 (by decide +kernel) (by decide +kernel), q_l 3 138 rfl (by decide +kernel), ⟨rfl, ncq_5.1, ncq_5.2, pdq_18⟩⟩
theorem cv_X2_letterAt : Cv RX2 yX2_letterAt cX2_letterAt 2 (some .int) 1 := ⟨q_l 3 94 (by decide +kernel) (by decide +kernel), q_l 0 3 (by decide +kernel) (by decide +kernel), q_l 1 2 (by decide +kernel) (by decide +kernel), q_l 3 95 rfl (by decide +kernel), ⟨rfl, ncq_5.1, ncq_5.2, pdq_10⟩⟩
theorem cv_X2_nextLetter : Cv RX2 yX2_nextLetter cX2_nextLetter 2 (some .int) 0 := ⟨q_l 3 90 (by decide +kernel) (by decide +kernel), q_l 0 2 (by decide +kernel) (by decide +kernel), q_l 1 2 (by decide +kernel) (by decide +kernel), q_l 3 91 rfl (by decide +kernel), ⟨rfl, ncq_5.1, ncq_5.2, pdq_8⟩⟩
theorem cv_X2_numberBelow : Cv RX2 yX2_numberBelow cX2_numberBelow 3 (some .int) 0 := ⟨q_l 3 153 (by decide +kernel) (by decide +kernel), q_l 0 12 (by decide +kernel) (by decide +kernel), q_l 1 2 (by decide +kernel) (by decide +kernel), q_l 3 154 rfl (by decide +kernel), ⟨rfl, ncq_5.1, ncq_5.2, pdq_8⟩⟩
theorem cv_X2_openings : Cv RX2 yX2_openings cX2_openings 3 (some .boolean) 0 := ⟨q_l 3 86 (by decide +kernel) (by decide +kernel), q_l 0 1 (by decide +kernel) (by decide +kernel), q_l 1 2 (by decide +kernel) (by decide +kernel), q_l 3 87 rfl (by decide +kernel), ⟨rfl, ncq_5.1, ncq_5.2, pdq_17⟩⟩
theorem cv_X2_plainUnit : Cv RX2 yX2_plainUnit cX2_plainUnit 2 (some .boolean) 0 := ⟨q_l 3 109 (by decide +kernel) (by decide +kernel), q_l 0 6 (by decide +kernel) (by decide +kernel), q_l 1 2 (by decide +kernel) (by decide +kernel), q_l 3 110 rfl (by decide +kernel), ⟨rfl, ncq_5.1, ncq_5.2, pdq_17⟩⟩
theorem cv_X2_pushAtom : Cv RX2 yX2_pushAtom cX2_pushAtom 3 none 1 := ⟨q_l 3 161 (by decide +kernel) (by decide +kernel), q_l 0 13 (by decide +kernel) (by decide +kernel), q_l 1 2 (by decide +kernel) (by decide +kernel), q_l 3 162 rfl (by decide +kernel), ⟨rfl, ncq_5.1, ncq_5.2, pdq_9⟩⟩
theorem cv_X2_side : Cv RX2 yX2_side cX2_side 6 (some .boolean) 1 := ⟨q_l 3 133 (by decide +kernel) (by decide +kernel), q_l 0 9 (by decide +kernel) (by decide +kernel), q_l 1 2 (by decide +kernel) (by decide +kernel), q_l 3 134 rfl (by decide +kernel), ⟨rfl, ncq_5.1, ncq_5.2, pdq_18⟩⟩
theorem cs_X2_tightness : Cs yX2_tightness cX2_tightness 1 (some .int) 1 := ⟨q_l 3 200 (by decide +kernel) (by decide +kernel), q_l 1 2 (by decide +kernel) (by decide +kernel), q_l 3 201 rfl (by decide +kernel), ⟨ncq_5.1, ncq_5.2, pdq_10⟩⟩
theorem cs_X2_variableOf : Cs yX2_variableOf cX2_variableOf 1 (some .int) 1 := ⟨q_l 3 105 (by decide +kernel) (by decide +kernel), q_l 1 2 (by decide +kernel) (by decide +kernel), q_l 3 106 rfl (by decide +kernel), ⟨ncq_5.1, ncq_5.2, pdq_10⟩⟩
theorem cv_X2_wholeNumber : Cv RX2 yX2_wholeNumber cX2_wholeNumber 4 (some .int) 0 := ⟨q_l 3 149 (by decide +kernel) (by decide +kernel), q_l 0 11 (by decide +kernel) (by decide +kernel), q_l 1 2 (by decide +kernel) (by decide +kernel), q_l 3 150 rfl (by decide +kernel), ⟨rfl, ncq_5.1, ncq_5.2, pdq_8⟩⟩
theorem cv_X4_add : Cv RX4 yX4_add cX4_add 4 none 2 := ⟨q_l 3 141 (by decide +kernel) (by decide +kernel), q_l 3 142 (by decide +kernel) (by decide +kernel), q_l 1 6 (by decide +kernel) (by decide +kernel), q_l 3 143 rfl (by decide +kernel), ⟨rfl, ncq_1.1, ncq_1.2, pdq_19⟩⟩
theorem cv_X4_empty : Cv RX4 yX4_empty cX4_empty 1 none 0 := ⟨q_l 3 125 (by decide +kernel) (by decide +kernel), q_l 3 126 (by decide +kernel) (by decide +kernel), q_l 1 6 (by decide +kernel) (by decide +kernel), q_l 3 127 rfl (by decide +kernel), ⟨rfl, ncq_1.1, ncq_1.2, pdq_5⟩⟩
theorem cv_X4_settle : Cv RX4 yX4_settle cX4_settle 6 (some .int) 1 := ⟨q_l 3 164 (by decide +kernel) (by decide +kernel), q_l 3 165 (by decide +kernel) (by decide +kernel), q_l 1 6 (by decide +kernel) (by decide +kernel), q_l 3 166 rfl (by decide +kernel), ⟨rfl, ncq_1.1, ncq_1.2, pdq_10⟩⟩
section G_X2_take
abbrev ws_X2_take (cI cJ cB : ClassId) (a0 a_bench a_sum a_waiting a_bytes : Nat) (length : Int32) (waits : Int32) (at_ : Int32) (opened : Int32) (parens : Int32) (great : Int32) (bytes : Nat → Int32) : va_W := [(a0, .inr (4, [.ref a_bytes, .ref a_bench, .ref a_sum, .ref a_waiting, .int length, .int waits, .int at_, .int opened, .int parens, .int great])), (a_bytes, .inl (cB, 240, .inl bytes))]
abbrev rm_X2_take : Room := { frames := 0, cells := 0, slots := 0, locals := 0 }
def f_X2_take_30 (N : Nat) (length : Int32) (bytes : Nat → Int32) : Option ((Int32) × (Nat → Int32)) := some (length, bytes)
def f_X2_take (N : Nat) (length : Int32) (bytes : Nat → Int32) (x1 : Int32) : Option ((Int32) × (Nat → Int32)) := ifb (240 ≤ length) (f_X2_take_30 N length bytes) (ix length 240 (f_X2_take_30 N (length + 1) (upd bytes length.toNatClampNeg (vp_nar .byte x1))))
variable {p : Program} {l : Launch} {e : Env} {s : State} {m : MethodId} {below : List Frame} {meth : Method} {c : Code} {args : Array Value} {x0 : Cond} {D : va_G} {cI cJ cB : ClassId} {sz N : Nat} {ws0 : va_W} {a0 a_bench a_sum a_waiting a_bytes : Nat} {waits : Int32} {at_ : Int32} {opened : Int32} {parens : Int32} {great : Int32} {z : (Int32) × (Nat → Int32)}
set_option maxHeartbeats 4000000 in
set_option maxRecDepth 100000 in
theorem w_X2_take_30 (CX : Cx p m c cX2_take 2 s args x0 RX2 meth none) (hK : va_K D vwCl (ty0 cI cJ cB) s) (hsz : s.heap.size = sz) : ∀ (length : Int32) (bytes : Nat → Int32) (H : Heap) (locs : List Loc) (ls : Array Slot), f_X2_take_30 N length bytes = some z → va_P D vwCl (ws_X2_take cI cJ cB a0 a_bench a_sum a_waiting a_bytes length waits at_ opened parens great bytes) H → va_D (va_A ws0 sz) (ws_X2_take cI cJ cB a0 a_bench a_sum a_waiting a_bytes length waits at_ opened parens great bytes) → va_S (va_A ws0 sz) s.heap H locs → lv_has ls 2 [] → W p l e rm_X2_take s m args below meth c H locs 0 0 (MQ below (gQ D sz ws0 (ws_X2_take cI cJ cB a0 a_bench a_sum a_waiting a_bytes z.1 waits at_ opened parens great z.2) none) args s 0 0 (va_A ws0 sz)) (F0 m 30 ls []) := by
  obtain ⟨F, hr, hlk, hNw⟩ := id CX
  have hx := F.1
  have hb := F.2.1
  have hown := F.2.2.2.1
  have hA : ∀ q, s.heap.size ≤ q → va_A ws0 sz q := fun q hq => Or.inr (hsz ▸ hq)
  intro length bytes H locs ls h hP hD hS hl
  unfold f_X2_take_30 at h
  obtain rfl := Option.some.inj h
  exact r_vret F hr hlk dX2_take_30 hsz hP hD hS
end G_X2_take
set_option maxHeartbeats 4000000 in
set_option maxRecDepth 100000 in
theorem c_X2_take (l : Launch) (D : va_G) (cI cJ cB : ClassId) (a0 a_bench a_sum a_waiting a_bytes : Nat) (sz : Nat) (length : Int32) (waits : Int32) (at_ : Int32) (opened : Int32) (parens : Int32) (great : Int32) (bytes : Nat → Int32) (x1 : Int32) (N : Nat) {z : (Int32) × (Nat → Int32)} (h : f_X2_take N length bytes x1 = some z) : Mg l yX2_take cX2_take 2 none rm_X2_take D (ty0 cI cJ cB) [.ref a0, .int x1] sz (ws_X2_take cI cJ cB a0 a_bench a_sum a_waiting a_bytes length waits at_ opened parens great bytes) none (ws_X2_take cI cJ cB a0 a_bench a_sum a_waiting a_bytes z.1 waits at_ opened parens great z.2) := by
  refine Mg.of (by decide) (Nat.le_of_ble_eq_true rfl) ?_
  intro p e s m below meth c CX hK hsz hP hD ls hl
  have CX : Cx p m c cX2_take 2 s ([.ref a0, .int x1] : List Value).toArray (Cond.code yX2_take cX2_take 2 none) RX2 meth none := CX
  obtain ⟨F, hr, hlk, hNw⟩ := id CX
  have hx := F.1
  have hb := F.2.1
  have hown := F.2.2.2.1
  have hl : lv_has ls 2 [(0, .ref a0), (1, .int x1)] := hl
  have hS : va_S (va_A (ws_X2_take cI cJ cB a0 a_bench a_sum a_waiting a_bytes length waits at_ opened parens great bytes) sz) s.heap s.heap [] := va_S.rf
  have hA : ∀ q, s.heap.size ≤ q → va_A (ws_X2_take cI cJ cB a0 a_bench a_sum a_waiting a_bytes length waits at_ opened parens great bytes) sz q := fun q hq => Or.inr (hsz ▸ hq)
  unfold f_X2_take at h
  refine lv_aload_n hx hb dX2_take_0 rfl (lv_at hl 0 rfl) ?_
  refine r_get F hK hP 0 4 rfl inW_X2 wm_170 rfl (by decide) rfl dX2_take_1 ?_
  refine lv_sipush (v := 240) hx hb dX2_take_4 (by decide) ?_
  refine lv_icmp_ge (tgt := 30) hx hb dX2_take_7 (by decide) (fun c7 => ?_) (fun c7 => ?_)
  · have h := o_t c7 h
    exact w_X2_take_30 CX hK hsz length bytes _ _ _ h hP hD hS (lv_sub hl [] rfl)
  · have h := o_f c7 h
    refine lv_aload_n hx hb dX2_take_10 rfl (lv_at hl 0 rfl) ?_
    refine r_get F hK hP 0 0 rfl inW_X2 wm_165 rfl (by decide) rfl dX2_take_11 ?_
    refine lv_aload_n hx hb dX2_take_14 rfl (lv_at hl 0 rfl) ?_
    refine r_get F hK hP 0 4 rfl inW_X2 wm_170 rfl (by decide) rfl dX2_take_15 ?_
    refine lv_iload_n hx hb dX2_take_18 rfl (lv_at hl 1 rfl) ?_
    obtain ⟨hi19, h⟩ := o_ix h
    refine r_bast (wn := (ws_X2_take cI cJ cB a0 a_bench a_sum a_waiting a_bytes length waits at_ opened parens great (upd bytes length.toNatClampNeg (vp_nar .byte x1)))) F hK hP hD hS 1 2 hi19 rfl rfl rfl dX2_take_19 (fun H locs hP hD hS => ?_)
    refine lv_aload_n hx hb dX2_take_20 rfl (lv_at hl 0 rfl) ?_
    refine lv_dup hx hb dX2_take_21 rfl ?_
    refine r_get F hK hP 0 4 rfl inW_X2 wm_170 rfl (by decide) rfl dX2_take_22 ?_
    refine lv_iconst (v := 1) hx hb dX2_take_25 (by decide) ?_
    refine lv_iadd hx hb dX2_take_26 ?_
    refine r_put (wn := (ws_X2_take cI cJ cB a0 a_bench a_sum a_waiting a_bytes (length + 1) waits at_ opened parens great (upd bytes length.toNatClampNeg (vp_nar .byte x1)))) F hK hP hD hS 0 4 rfl inW_X2 wm_170 tyX2_ok nmX2 rfl rfl (by decide) rfl rfl (Nat.le_of_ble_eq_true rfl) rfl dX2_take_27 (fun H locs hP hD hS => ?_)
    exact w_X2_take_30 CX hK hsz (length + 1) (upd bytes length.toNatClampNeg (vp_nar .byte x1)) _ _ _ h hP hD hS (lv_sub hl [] rfl)
section G_X2_await
abbrev ws_X2_await (cI cJ cB : ClassId) (a0 a_bytes a_bench a_sum a_waiting : Nat) (length : Int32) (waits : Int32) (at_ : Int32) (opened : Int32) (parens : Int32) (great : Int32) (waiting : Nat → Int32) : va_W := [(a0, .inr (4, [.ref a_bytes, .ref a_bench, .ref a_sum, .ref a_waiting, .int length, .int waits, .int at_, .int opened, .int parens, .int great])), (a_waiting, .inl (cI, 240, .inl waiting))]
abbrev rm_X2_await : Room := { frames := 0, cells := 0, slots := 0, locals := 0 }
def f_X2_await_30 (N : Nat) (waits : Int32) (waiting : Nat → Int32) : Option ((Int32) × (Nat → Int32)) := some (waits, waiting)
def f_X2_await (N : Nat) (waits : Int32) (waiting : Nat → Int32) (x1 : Int32) : Option ((Int32) × (Nat → Int32)) := ifb (240 ≤ waits) (f_X2_await_30 N waits waiting) (ix waits 240 (f_X2_await_30 N (waits + 1) (upd waiting waits.toNatClampNeg x1)))
variable {p : Program} {l : Launch} {e : Env} {s : State} {m : MethodId} {below : List Frame} {meth : Method} {c : Code} {args : Array Value} {x0 : Cond} {D : va_G} {cI cJ cB : ClassId} {sz N : Nat} {ws0 : va_W} {a0 a_bytes a_bench a_sum a_waiting : Nat} {length : Int32} {at_ : Int32} {opened : Int32} {parens : Int32} {great : Int32} {z : (Int32) × (Nat → Int32)}
set_option maxHeartbeats 4000000 in
set_option maxRecDepth 100000 in
theorem w_X2_await_30 (CX : Cx p m c cX2_await 2 s args x0 RX2 meth none) (hK : va_K D vwCl (ty0 cI cJ cB) s) (hsz : s.heap.size = sz) : ∀ (waits : Int32) (waiting : Nat → Int32) (H : Heap) (locs : List Loc) (ls : Array Slot), f_X2_await_30 N waits waiting = some z → va_P D vwCl (ws_X2_await cI cJ cB a0 a_bytes a_bench a_sum a_waiting length waits at_ opened parens great waiting) H → va_D (va_A ws0 sz) (ws_X2_await cI cJ cB a0 a_bytes a_bench a_sum a_waiting length waits at_ opened parens great waiting) → va_S (va_A ws0 sz) s.heap H locs → lv_has ls 2 [] → W p l e rm_X2_await s m args below meth c H locs 0 0 (MQ below (gQ D sz ws0 (ws_X2_await cI cJ cB a0 a_bytes a_bench a_sum a_waiting length z.1 at_ opened parens great z.2) none) args s 0 0 (va_A ws0 sz)) (F0 m 30 ls []) := by
  obtain ⟨F, hr, hlk, hNw⟩ := id CX
  have hx := F.1
  have hb := F.2.1
  have hown := F.2.2.2.1
  have hA : ∀ q, s.heap.size ≤ q → va_A ws0 sz q := fun q hq => Or.inr (hsz ▸ hq)
  intro waits waiting H locs ls h hP hD hS hl
  unfold f_X2_await_30 at h
  obtain rfl := Option.some.inj h
  exact r_vret F hr hlk dX2_await_30 hsz hP hD hS
end G_X2_await
set_option maxHeartbeats 4000000 in
set_option maxRecDepth 100000 in
theorem c_X2_await (l : Launch) (D : va_G) (cI cJ cB : ClassId) (a0 a_bytes a_bench a_sum a_waiting : Nat) (sz : Nat) (length : Int32) (waits : Int32) (at_ : Int32) (opened : Int32) (parens : Int32) (great : Int32) (waiting : Nat → Int32) (x1 : Int32) (N : Nat) {z : (Int32) × (Nat → Int32)} (h : f_X2_await N waits waiting x1 = some z) : Mg l yX2_await cX2_await 2 none rm_X2_await D (ty0 cI cJ cB) [.ref a0, .int x1] sz (ws_X2_await cI cJ cB a0 a_bytes a_bench a_sum a_waiting length waits at_ opened parens great waiting) none (ws_X2_await cI cJ cB a0 a_bytes a_bench a_sum a_waiting length z.1 at_ opened parens great z.2) := by
  refine Mg.of (by decide) (Nat.le_of_ble_eq_true rfl) ?_
  intro p e s m below meth c CX hK hsz hP hD ls hl
  have CX : Cx p m c cX2_await 2 s ([.ref a0, .int x1] : List Value).toArray (Cond.code yX2_await cX2_await 2 none) RX2 meth none := CX
  obtain ⟨F, hr, hlk, hNw⟩ := id CX
  have hx := F.1
  have hb := F.2.1
  have hown := F.2.2.2.1
  have hl : lv_has ls 2 [(0, .ref a0), (1, .int x1)] := hl
  have hS : va_S (va_A (ws_X2_await cI cJ cB a0 a_bytes a_bench a_sum a_waiting length waits at_ opened parens great waiting) sz) s.heap s.heap [] := va_S.rf
  have hA : ∀ q, s.heap.size ≤ q → va_A (ws_X2_await cI cJ cB a0 a_bytes a_bench a_sum a_waiting length waits at_ opened parens great waiting) sz q := fun q hq => Or.inr (hsz ▸ hq)
  unfold f_X2_await at h
  refine lv_aload_n hx hb dX2_await_0 rfl (lv_at hl 0 rfl) ?_
  refine r_get F hK hP 0 5 rfl inW_X2 wm_172 rfl (by decide) rfl dX2_await_1 ?_
  refine lv_sipush (v := 240) hx hb dX2_await_4 (by decide) ?_
  refine lv_icmp_ge (tgt := 30) hx hb dX2_await_7 (by decide) (fun c7 => ?_) (fun c7 => ?_)
  · have h := o_t c7 h
    exact w_X2_await_30 CX hK hsz waits waiting _ _ _ h hP hD hS (lv_sub hl [] rfl)
  · have h := o_f c7 h
    refine lv_aload_n hx hb dX2_await_10 rfl (lv_at hl 0 rfl) ?_
    refine r_get F hK hP 0 3 rfl inW_X2 wm_169 rfl (by decide) rfl dX2_await_11 ?_
    refine lv_aload_n hx hb dX2_await_14 rfl (lv_at hl 0 rfl) ?_
    refine r_get F hK hP 0 5 rfl inW_X2 wm_172 rfl (by decide) rfl dX2_await_15 ?_
    refine lv_iload_n hx hb dX2_await_18 rfl (lv_at hl 1 rfl) ?_
    obtain ⟨hi19, h⟩ := o_ix h
    refine r_iast (wn := (ws_X2_await cI cJ cB a0 a_bytes a_bench a_sum a_waiting length waits at_ opened parens great (upd waiting waits.toNatClampNeg x1))) F hK hP hD hS 1 0 hi19 rfl rfl rfl dX2_await_19 (fun H locs hP hD hS => ?_)
    refine lv_aload_n hx hb dX2_await_20 rfl (lv_at hl 0 rfl) ?_
    refine lv_dup hx hb dX2_await_21 rfl ?_
    refine r_get F hK hP 0 5 rfl inW_X2 wm_172 rfl (by decide) rfl dX2_await_22 ?_
    refine lv_iconst (v := 1) hx hb dX2_await_25 (by decide) ?_
    refine lv_iadd hx hb dX2_await_26 ?_
    refine r_put (wn := (ws_X2_await cI cJ cB a0 a_bytes a_bench a_sum a_waiting length (waits + 1) at_ opened parens great (upd waiting waits.toNatClampNeg x1))) F hK hP hD hS 0 5 rfl inW_X2 wm_172 tyX2_ok nmX2 rfl rfl (by decide) rfl rfl (Nat.le_of_ble_eq_true rfl) rfl dX2_await_27 (fun H locs hP hD hS => ?_)
    exact w_X2_await_30 CX hK hsz (waits + 1) (upd waiting waits.toNatClampNeg x1) _ _ _ h hP hD hS (lv_sub hl [] rfl)
section G_X2_tightness
abbrev ws_X2_tightness (cI cJ cB : ClassId) : va_W := []
abbrev rm_X2_tightness : Room := { frames := 0, cells := 0, slots := 0, locals := 0 }
def f_X2_tightness_48 (N : Nat) : Option (Int32) := some 4
def f_X2_tightness (N : Nat) (x1 : Int32) : Option (Int32) := ifb (x1.toInt < 6 ∨ 11 < x1.toInt) (f_X2_tightness_48 N ) (ifb (x1 = 6) (some 3) (ifb (x1 = 7) (some 2) (ifb (x1 = 8) (f_X2_tightness_48 N ) (ifb (x1 = 9) (f_X2_tightness_48 N ) (ifb (x1 = 10) (some 1) (ifb (x1 = 11) (some 0) (none)))))))
variable {p : Program} {l : Launch} {e : Env} {s : State} {m : MethodId} {below : List Frame} {meth : Method} {c : Code} {args : Array Value} {x0 : Cond} {D : va_G} {cI cJ cB : ClassId} {sz N : Nat} {ws0 : va_W} {z : Int32}
set_option maxHeartbeats 4000000 in
set_option maxRecDepth 100000 in
theorem w_X2_tightness_48 (CX : Cx p m c cX2_tightness 1 s args x0 RX2 meth (some .int)) (hK : va_K D vwCl (ty0 cI cJ cB) s) (hsz : s.heap.size = sz) : ∀ (H : Heap) (locs : List Loc) (ls : Array Slot), f_X2_tightness_48 N  = some z → va_P D vwCl (ws_X2_tightness cI cJ cB) H → va_D (va_A ws0 sz) (ws_X2_tightness cI cJ cB) → va_S (va_A ws0 sz) s.heap H locs → lv_has ls 1 [] → W p l e rm_X2_tightness s m args below meth c H locs 0 0 (MQ below (gQ D sz ws0 (ws_X2_tightness cI cJ cB) (some (.int z))) args s 0 0 (va_A ws0 sz)) (F0 m 48 ls []) := by
  obtain ⟨F, hr, hlk, hNw⟩ := id CX
  have hx := F.1
  have hb := F.2.1
  have hown := F.2.2.2.1
  have hA : ∀ q, s.heap.size ≤ q → va_A ws0 sz q := fun q hq => Or.inr (hsz ▸ hq)
  intro  H locs ls h hP hD hS hl
  unfold f_X2_tightness_48 at h
  refine lv_iconst (v := 4) hx hb dX2_tightness_48 (by decide) ?_
  obtain rfl := Option.some.inj h
  exact r_ret (v := 4) F hr hlk rfl dX2_tightness_49 hsz hP hD hS
end G_X2_tightness
set_option maxHeartbeats 4000000 in
set_option maxRecDepth 100000 in
theorem c_X2_tightness (l : Launch) (D : va_G) (cI cJ cB : ClassId) (sz : Nat) (x1 : Int32) (N : Nat) {z : Int32} (h : f_X2_tightness N x1 = some z) : Mg l yX2_tightness cX2_tightness 1 (some .int) rm_X2_tightness D (ty0 cI cJ cB) [.int x1] sz (ws_X2_tightness cI cJ cB) (some (.int z)) (ws_X2_tightness cI cJ cB) := by
  refine Mg.of (by decide) (Nat.le_of_ble_eq_true rfl) ?_
  intro p e s m below meth c CX hK hsz hP hD ls hl
  have CX : Cx p m c cX2_tightness 1 s ([.int x1] : List Value).toArray (Cond.code yX2_tightness cX2_tightness 1 (some .int)) RX2 meth (some .int) := CX
  obtain ⟨F, hr, hlk, hNw⟩ := id CX
  have hx := F.1
  have hb := F.2.1
  have hown := F.2.2.2.1
  have hl : lv_has ls 1 [(0, .int x1)] := hl
  have hS : va_S (va_A (ws_X2_tightness cI cJ cB) sz) s.heap s.heap [] := va_S.rf
  have hA : ∀ q, s.heap.size ≤ q → va_A (ws_X2_tightness cI cJ cB) sz q := fun q hq => Or.inr (hsz ▸ hq)
  unfold f_X2_tightness at h
  refine lv_iload_n hx hb dX2_tightness_0 rfl (lv_at hl 0 rfl) ?_
  by_cases o1 : x1.toInt < 6 ∨ 11 < x1.toInt
  · have h := o_t o1 h
    refine lv_tableOut (tgt := 48) hx hb dX2_tightness_1 o1 (by decide) ?_
    exact w_X2_tightness_48 CX hK hsz  _ _ _ h hP hD hS (lv_sub hl [] rfl)
  · have h := o_f o1 h
    by_cases e1_6 : x1 = 6
    · have h := o_t e1_6 h
      refine lv_tableIn (off := 45) (tgt := 46) hx hb dX2_tightness_1 (by rw [e1_6]; decide) (by rw [e1_6]; decide) (by rw [e1_6]; rfl) (by decide) ?_
      refine lv_iconst (v := 3) hx hb dX2_tightness_46 (by decide) ?_
      obtain rfl := Option.some.inj h
      exact r_ret (v := 3) F hr hlk rfl dX2_tightness_47 hsz hP hD hS
    · have h := o_f e1_6 h
      by_cases e1_7 : x1 = 7
      · have h := o_t e1_7 h
        refine lv_tableIn (off := 43) (tgt := 44) hx hb dX2_tightness_1 (by rw [e1_7]; decide) (by rw [e1_7]; decide) (by rw [e1_7]; rfl) (by decide) ?_
        refine lv_iconst (v := 2) hx hb dX2_tightness_44 (by decide) ?_
        obtain rfl := Option.some.inj h
        exact r_ret (v := 2) F hr hlk rfl dX2_tightness_45 hsz hP hD hS
      · have h := o_f e1_7 h
        by_cases e1_8 : x1 = 8
        · have h := o_t e1_8 h
          refine lv_tableIn (off := 47) (tgt := 48) hx hb dX2_tightness_1 (by rw [e1_8]; decide) (by rw [e1_8]; decide) (by rw [e1_8]; rfl) (by decide) ?_
          exact w_X2_tightness_48 CX hK hsz  _ _ _ h hP hD hS (lv_sub hl [] rfl)
        · have h := o_f e1_8 h
          by_cases e1_9 : x1 = 9
          · have h := o_t e1_9 h
            refine lv_tableIn (off := 47) (tgt := 48) hx hb dX2_tightness_1 (by rw [e1_9]; decide) (by rw [e1_9]; decide) (by rw [e1_9]; rfl) (by decide) ?_
            exact w_X2_tightness_48 CX hK hsz  _ _ _ h hP hD hS (lv_sub hl [] rfl)
          · have h := o_f e1_9 h
            by_cases e1_10 : x1 = 10
            · have h := o_t e1_10 h
              refine lv_tableIn (off := 41) (tgt := 42) hx hb dX2_tightness_1 (by rw [e1_10]; decide) (by rw [e1_10]; decide) (by rw [e1_10]; rfl) (by decide) ?_
              refine lv_iconst (v := 1) hx hb dX2_tightness_42 (by decide) ?_
              obtain rfl := Option.some.inj h
              exact r_ret (v := 1) F hr hlk rfl dX2_tightness_43 hsz hP hD hS
            · have h := o_f e1_10 h
              by_cases e1_11 : x1 = 11
              · have h := o_t e1_11 h
                refine lv_tableIn (off := 39) (tgt := 40) hx hb dX2_tightness_1 (by rw [e1_11]; decide) (by rw [e1_11]; decide) (by rw [e1_11]; rfl) (by decide) ?_
                refine lv_iconst (v := 0) hx hb dX2_tightness_40 (by decide) ?_
                obtain rfl := Option.some.inj h
                exact r_ret (v := 0) F hr hlk rfl dX2_tightness_41 hsz hP hD hS
              · have h := o_f e1_11 h
                cases h
section G_X2_carryOutOne
abbrev ws_X2_carryOutOne (cI cJ cB : ClassId) (a0 a_bytes a_sum a_waiting a_bench a_bench_tree a_bench_tree_cells a_bench_starts a_bench_looses : Nat) (length : Int32) (waits : Int32) (at_ : Int32) (opened : Int32) (parens : Int32) (great : Int32) (bench_parts : Int32) (bench_tree_rows : Int32) (bench_tree_cells : Nat → Int32) (bench_tree_cells_n : Nat) (bench_starts : Nat → Int32) (bench_looses : Nat → Int32) : va_W := [(a0, .inr (4, [.ref a_bytes, .ref a_bench, .ref a_sum, .ref a_waiting, .int length, .int waits, .int at_, .int opened, .int parens, .int great])), (a_bench, .inr (2, [.ref a_bench_tree, .ref a_bench_starts, .ref a_bench_looses, .int bench_parts])), (a_bench_tree, .inr (7, [.ref a_bench_tree_cells, .int bench_tree_rows])), (a_bench_tree_cells, .inl (cI, bench_tree_cells_n, .inl bench_tree_cells)), (a_bench_starts, .inl (cI, 402, .inl bench_starts)), (a_bench_looses, .inl (cI, 402, .inl bench_looses))]
abbrev rm_X2_carryOutOne : Room := { frames := 4, cells := 0, slots := 0, locals := 95 }
def f_X2_carryOutOne_83 (N : Nat) (opened : Int32) (bench_parts : Int32) (bench_tree_rows : Int32) (bench_tree_cells : Nat → Int32) (bench_tree_cells_n : Nat) (bench_starts : Nat → Int32) (bench_looses : Nat → Int32) : Option ((Int32) × (Int32) × (Int32) × (Nat → Int32) × (Nat → Int32)) := some (opened, bench_parts, bench_tree_rows, bench_tree_cells, bench_looses)
def f_X2_carryOutOne_12 (N : Nat) (opened : Int32) (bench_parts : Int32) (bench_tree_rows : Int32) (bench_tree_cells : Nat → Int32) (bench_tree_cells_n : Nat) (bench_starts : Nat → Int32) (bench_looses : Nat → Int32) (y1 : Int32) : Option ((Int32) × (Int32) × (Int32) × (Nat → Int32) × (Nat → Int32)) := (f_X0_join N bench_parts bench_tree_rows bench_tree_cells bench_tree_cells_n bench_starts bench_looses y1).bind (fun z17 => f_X2_carryOutOne_83 N opened z17.1 z17.2.1 z17.2.2.1 bench_tree_cells_n bench_starts z17.2.2.2)
def f_X2_carryOutOne (N : Nat) (opened : Int32) (bench_parts : Int32) (bench_tree_rows : Int32) (bench_tree_cells : Nat → Int32) (bench_tree_cells_n : Nat) (bench_starts : Nat → Int32) (bench_looses : Nat → Int32) (x1 : Int32) (x2 : Int32) : Option ((Int32) × (Int32) × (Int32) × (Nat → Int32) × (Nat → Int32)) := ifb (x1 = 6) (f_X2_carryOutOne_12 N opened bench_parts bench_tree_rows bench_tree_cells bench_tree_cells_n bench_starts bench_looses x1) (ifb (x1 = 7) (f_X2_carryOutOne_12 N opened bench_parts bench_tree_rows bench_tree_cells bench_tree_cells_n bench_starts bench_looses x1) (ifb (x1 = 10) ((f_X0_negateLastButOne N bench_parts bench_tree_rows bench_tree_cells bench_tree_cells_n bench_starts).bind (fun z33 => (f_X0_join N bench_parts bench_tree_rows z33 bench_tree_cells_n bench_starts bench_looses 7).bind (fun z42 => f_X2_carryOutOne_83 N opened z42.1 z42.2.1 z42.2.2.1 bench_tree_cells_n bench_starts z42.2.2.2))) (ifb (x1 = 12) ((f_X0_negateLast N bench_parts bench_tree_rows bench_tree_cells bench_tree_cells_n bench_starts).bind (fun z68 => f_X2_carryOutOne_83 N (opened - 1) bench_parts bench_tree_rows z68 bench_tree_cells_n bench_starts bench_looses)) ((f_X0_bind N bench_parts bench_tree_rows bench_tree_cells bench_tree_cells_n bench_looses x1 x2).bind (fun z80 => f_X2_carryOutOne_83 N (opened - 1) bench_parts z80.1 z80.2.1 bench_tree_cells_n bench_starts z80.2.2)))))
variable {p : Program} {l : Launch} {e : Env} {s : State} {m : MethodId} {below : List Frame} {meth : Method} {c : Code} {args : Array Value} {x0 : Cond} {D : va_G} {cI cJ cB : ClassId} {sz N : Nat} {ws0 : va_W} {a0 a_bytes a_sum a_waiting a_bench a_bench_tree a_bench_tree_cells a_bench_starts a_bench_looses : Nat} {length : Int32} {waits : Int32} {at_ : Int32} {parens : Int32} {great : Int32} {bench_tree_cells_n : Nat} {bench_starts : Nat → Int32} {z : (Int32) × (Int32) × (Int32) × (Nat → Int32) × (Nat → Int32)}
set_option maxHeartbeats 4000000 in
set_option maxRecDepth 100000 in
theorem w_X2_carryOutOne_83 (CX : Cx p m c cX2_carryOutOne 3 s args x0 RX2 meth none) (hK : va_K D vwCl (ty0 cI cJ cB) s) (hsz : s.heap.size = sz) : ∀ (opened : Int32) (bench_parts : Int32) (bench_tree_rows : Int32) (bench_tree_cells : Nat → Int32) (bench_looses : Nat → Int32) (H : Heap) (locs : List Loc) (ls : Array Slot), f_X2_carryOutOne_83 N opened bench_parts bench_tree_rows bench_tree_cells bench_tree_cells_n bench_starts bench_looses = some z → va_P D vwCl (ws_X2_carryOutOne cI cJ cB a0 a_bytes a_sum a_waiting a_bench a_bench_tree a_bench_tree_cells a_bench_starts a_bench_looses length waits at_ opened parens great bench_parts bench_tree_rows bench_tree_cells bench_tree_cells_n bench_starts bench_looses) H → va_D (va_A ws0 sz) (ws_X2_carryOutOne cI cJ cB a0 a_bytes a_sum a_waiting a_bench a_bench_tree a_bench_tree_cells a_bench_starts a_bench_looses length waits at_ opened parens great bench_parts bench_tree_rows bench_tree_cells bench_tree_cells_n bench_starts bench_looses) → va_S (va_A ws0 sz) s.heap H locs → lv_has ls 3 [] → W p l e rm_X2_carryOutOne s m args below meth c H locs 0 0 (MQ below (gQ D sz ws0 (ws_X2_carryOutOne cI cJ cB a0 a_bytes a_sum a_waiting a_bench a_bench_tree a_bench_tree_cells a_bench_starts a_bench_looses length waits at_ z.1 parens great z.2.1 z.2.2.1 z.2.2.2.1 bench_tree_cells_n bench_starts z.2.2.2.2) none) args s 0 0 (va_A ws0 sz)) (F0 m 83 ls []) := by
  obtain ⟨F, hr, hlk, hNw⟩ := id CX
  have hx := F.1
  have hb := F.2.1
  have hown := F.2.2.2.1
  have hA : ∀ q, s.heap.size ≤ q → va_A ws0 sz q := fun q hq => Or.inr (hsz ▸ hq)
  intro opened bench_parts bench_tree_rows bench_tree_cells bench_looses H locs ls h hP hD hS hl
  unfold f_X2_carryOutOne_83 at h
  obtain rfl := Option.some.inj h
  exact r_vret F hr hlk dX2_carryOutOne_83 hsz hP hD hS
set_option maxHeartbeats 4000000 in
set_option maxRecDepth 100000 in
theorem w_X2_carryOutOne_12 (CX : Cx p m c cX2_carryOutOne 3 s args x0 RX2 meth none) (hK : va_K D vwCl (ty0 cI cJ cB) s) (hsz : s.heap.size = sz) : ∀ (opened : Int32) (bench_parts : Int32) (bench_tree_rows : Int32) (bench_tree_cells : Nat → Int32) (bench_looses : Nat → Int32) (y1 : Int32) (H : Heap) (locs : List Loc) (ls : Array Slot), f_X2_carryOutOne_12 N opened bench_parts bench_tree_rows bench_tree_cells bench_tree_cells_n bench_starts bench_looses y1 = some z → va_P D vwCl (ws_X2_carryOutOne cI cJ cB a0 a_bytes a_sum a_waiting a_bench a_bench_tree a_bench_tree_cells a_bench_starts a_bench_looses length waits at_ opened parens great bench_parts bench_tree_rows bench_tree_cells bench_tree_cells_n bench_starts bench_looses) H → va_D (va_A ws0 sz) (ws_X2_carryOutOne cI cJ cB a0 a_bytes a_sum a_waiting a_bench a_bench_tree a_bench_tree_cells a_bench_starts a_bench_looses length waits at_ opened parens great bench_parts bench_tree_rows bench_tree_cells bench_tree_cells_n bench_starts bench_looses) → va_S (va_A ws0 sz) s.heap H locs → lv_has ls 3 [(0, .ref a0), (1, .int y1)] → W p l e rm_X2_carryOutOne s m args below meth c H locs 0 0 (MQ below (gQ D sz ws0 (ws_X2_carryOutOne cI cJ cB a0 a_bytes a_sum a_waiting a_bench a_bench_tree a_bench_tree_cells a_bench_starts a_bench_looses length waits at_ z.1 parens great z.2.1 z.2.2.1 z.2.2.2.1 bench_tree_cells_n bench_starts z.2.2.2.2) none) args s 0 0 (va_A ws0 sz)) (F0 m 12 ls []) := by
  obtain ⟨F, hr, hlk, hNw⟩ := id CX
  have hx := F.1
  have hb := F.2.1
  have hown := F.2.2.2.1
  have hA : ∀ q, s.heap.size ≤ q → va_A ws0 sz q := fun q hq => Or.inr (hsz ▸ hq)
  intro opened bench_parts bench_tree_rows bench_tree_cells bench_looses y1 H locs ls h hP hD hS hl
  unfold f_X2_carryOutOne_12 at h
  refine lv_aload_n hx hb dX2_carryOutOne_12 rfl (lv_at hl 0 rfl) ?_
  refine r_get F hK hP 0 1 rfl inW_X2 wm_166 rfl (by decide) rfl dX2_carryOutOne_13 ?_
  refine lv_iload_n hx hb dX2_carryOutOne_16 rfl (lv_at hl 1 rfl) ?_
  obtain ⟨z17, hz17, h⟩ := o_b h
  refine k_v (wn := (ws_X2_carryOutOne cI cJ cB a0 a_bytes a_sum a_waiting a_bench a_bench_tree a_bench_tree_cells a_bench_starts a_bench_looses length waits at_ opened parens great z17.1 z17.2.1 z17.2.2.1 bench_tree_cells_n bench_starts z17.2.2.2)) (As := [.int y1]) (rest := []) F hNw hK hP hD hS hA (c_X0_join l D cI cJ cB a_bench a_bench_tree a_bench_tree_cells a_bench_starts a_bench_looses _ bench_parts bench_tree_rows bench_tree_cells bench_tree_cells_n bench_starts bench_looses y1 N hz17) wm_756 cv_X0_join [1, 2, 3, 4, 5] [0] [0, 1, 2, 3, 4, 5] (⟨rfl, rfl, rfl, by decide, rfl⟩ : Ix [1, 2, 3, 4, 5] [0] [0, 1, 2, 3, 4, 5] 6) rfl rfl rfl rfl rfl rfl ⟨rfl, rfl, by decide, by decide⟩ hl.1 rfl (Nat.le_of_ble_eq_true rfl) ⟨Nat.zero_le _, Nat.zero_le _⟩ dX2_carryOutOne_17 (fun H locs hP hD hS => ?_)
  refine lv_goto (tgt := 83) hx hb dX2_carryOutOne_20 (by decide) ?_
  exact w_X2_carryOutOne_83 CX hK hsz opened z17.1 z17.2.1 z17.2.2.1 z17.2.2.2 _ _ _ h hP hD hS (lv_sub hl [] rfl)
end G_X2_carryOutOne
set_option maxHeartbeats 4000000 in
set_option maxRecDepth 100000 in
theorem c_X2_carryOutOne (l : Launch) (D : va_G) (cI cJ cB : ClassId) (a0 a_bytes a_sum a_waiting a_bench a_bench_tree a_bench_tree_cells a_bench_starts a_bench_looses : Nat) (sz : Nat) (length : Int32) (waits : Int32) (at_ : Int32) (opened : Int32) (parens : Int32) (great : Int32) (bench_parts : Int32) (bench_tree_rows : Int32) (bench_tree_cells : Nat → Int32) (bench_tree_cells_n : Nat) (bench_starts : Nat → Int32) (bench_looses : Nat → Int32) (x1 : Int32) (x2 : Int32) (N : Nat) {z : (Int32) × (Int32) × (Int32) × (Nat → Int32) × (Nat → Int32)} (h : f_X2_carryOutOne N opened bench_parts bench_tree_rows bench_tree_cells bench_tree_cells_n bench_starts bench_looses x1 x2 = some z) : Mg l yX2_carryOutOne cX2_carryOutOne 3 none rm_X2_carryOutOne D (ty0 cI cJ cB) [.ref a0, .int x1, .int x2] sz (ws_X2_carryOutOne cI cJ cB a0 a_bytes a_sum a_waiting a_bench a_bench_tree a_bench_tree_cells a_bench_starts a_bench_looses length waits at_ opened parens great bench_parts bench_tree_rows bench_tree_cells bench_tree_cells_n bench_starts bench_looses) none (ws_X2_carryOutOne cI cJ cB a0 a_bytes a_sum a_waiting a_bench a_bench_tree a_bench_tree_cells a_bench_starts a_bench_looses length waits at_ z.1 parens great z.2.1 z.2.2.1 z.2.2.2.1 bench_tree_cells_n bench_starts z.2.2.2.2) := by
  refine Mg.of (by decide) (Nat.le_of_ble_eq_true rfl) ?_
  intro p e s m below meth c CX hK hsz hP hD ls hl
  have CX : Cx p m c cX2_carryOutOne 3 s ([.ref a0, .int x1, .int x2] : List Value).toArray (Cond.code yX2_carryOutOne cX2_carryOutOne 3 none) RX2 meth none := CX
  obtain ⟨F, hr, hlk, hNw⟩ := id CX
  have hx := F.1
  have hb := F.2.1
  have hown := F.2.2.2.1
  have hl : lv_has ls 3 [(0, .ref a0), (1, .int x1), (2, .int x2)] := hl
  have hS : va_S (va_A (ws_X2_carryOutOne cI cJ cB a0 a_bytes a_sum a_waiting a_bench a_bench_tree a_bench_tree_cells a_bench_starts a_bench_looses length waits at_ opened parens great bench_parts bench_tree_rows bench_tree_cells bench_tree_cells_n bench_starts bench_looses) sz) s.heap s.heap [] := va_S.rf
  have hA : ∀ q, s.heap.size ≤ q → va_A (ws_X2_carryOutOne cI cJ cB a0 a_bytes a_sum a_waiting a_bench a_bench_tree a_bench_tree_cells a_bench_starts a_bench_looses length waits at_ opened parens great bench_parts bench_tree_rows bench_tree_cells bench_tree_cells_n bench_starts bench_looses) sz q := fun q hq => Or.inr (hsz ▸ hq)
  unfold f_X2_carryOutOne at h
  refine lv_iload_n hx hb dX2_carryOutOne_0 rfl (lv_at hl 1 rfl) ?_
  refine lv_bipush (v := 6) hx hb dX2_carryOutOne_1 (by decide) ?_
  refine lv_icmp_eq (tgt := 12) hx hb dX2_carryOutOne_3 (by decide) (fun c3 => ?_) (fun c3 => ?_)
  · have h := o_t c3 h
    exact w_X2_carryOutOne_12 CX hK hsz opened bench_parts bench_tree_rows bench_tree_cells bench_looses x1 _ _ _ h hP hD hS (lv_sub hl [0, 1] rfl)
  · have h := o_f c3 h
    refine lv_iload_n hx hb dX2_carryOutOne_6 rfl (lv_at hl 1 rfl) ?_
    refine lv_bipush (v := 7) hx hb dX2_carryOutOne_7 (by decide) ?_
    refine lv_icmp_ne (tgt := 23) hx hb dX2_carryOutOne_9 (by decide) (fun c9 => ?_) (fun c9 => ?_)
    · have h := o_f c9 h
      refine lv_iload_n hx hb dX2_carryOutOne_23 rfl (lv_at hl 1 rfl) ?_
      refine lv_bipush (v := 10) hx hb dX2_carryOutOne_24 (by decide) ?_
      refine lv_icmp_ne (tgt := 48) hx hb dX2_carryOutOne_26 (by decide) (fun c26 => ?_) (fun c26 => ?_)
      · have h := o_f c26 h
        refine lv_aload_n hx hb dX2_carryOutOne_48 rfl (lv_at hl 0 rfl) ?_
        refine lv_dup hx hb dX2_carryOutOne_49 rfl ?_
        refine r_get F hK hP 0 7 rfl inW_X2 wm_174 rfl (by decide) rfl dX2_carryOutOne_50 ?_
        refine lv_iconst (v := 1) hx hb dX2_carryOutOne_53 (by decide) ?_
        refine lv_isub hx hb dX2_carryOutOne_54 ?_
        refine r_put (wn := (ws_X2_carryOutOne cI cJ cB a0 a_bytes a_sum a_waiting a_bench a_bench_tree a_bench_tree_cells a_bench_starts a_bench_looses length waits at_ (opened - 1) parens great bench_parts bench_tree_rows bench_tree_cells bench_tree_cells_n bench_starts bench_looses)) F hK hP hD hS 0 7 rfl inW_X2 wm_174 tyX2_ok nmX2 rfl rfl (by decide) rfl rfl (Nat.le_of_ble_eq_true rfl) rfl dX2_carryOutOne_55 (fun H locs hP hD hS => ?_)
        refine lv_iload_n hx hb dX2_carryOutOne_58 rfl (lv_at hl 1 rfl) ?_
        refine lv_bipush (v := 12) hx hb dX2_carryOutOne_59 (by decide) ?_
        refine lv_icmp_ne (tgt := 74) hx hb dX2_carryOutOne_61 (by decide) (fun c61 => ?_) (fun c61 => ?_)
        · have h := o_f c61 h
          refine lv_aload_n hx hb dX2_carryOutOne_74 rfl (lv_at hl 0 rfl) ?_
          refine r_get F hK hP 0 1 rfl inW_X2 wm_166 rfl (by decide) rfl dX2_carryOutOne_75 ?_
          refine lv_iload_n hx hb dX2_carryOutOne_78 rfl (lv_at hl 1 rfl) ?_
          refine lv_iload_n hx hb dX2_carryOutOne_79 rfl (lv_at hl 2 rfl) ?_
          obtain ⟨z80, hz80, h⟩ := o_b h
          refine k_v (wn := (ws_X2_carryOutOne cI cJ cB a0 a_bytes a_sum a_waiting a_bench a_bench_tree a_bench_tree_cells a_bench_starts a_bench_looses length waits at_ (opened - 1) parens great bench_parts z80.1 z80.2.1 bench_tree_cells_n bench_starts z80.2.2)) (As := [.int x1, .int x2]) (rest := []) F hNw hK hP hD hS hA (c_X0_bind l D cI cJ cB a_bench a_bench_starts a_bench_tree a_bench_tree_cells a_bench_looses _ bench_parts bench_tree_rows bench_tree_cells bench_tree_cells_n bench_looses x1 x2 N hz80) wm_790 cv_X0_bind [1, 2, 3, 5] [0, 4] [0, 2, 3, 4, 1, 5] (⟨rfl, rfl, rfl, by decide, rfl⟩ : Ix [1, 2, 3, 5] [0, 4] [0, 2, 3, 4, 1, 5] 6) rfl rfl rfl rfl rfl rfl ⟨rfl, rfl, by decide, by decide⟩ hl.1 rfl (Nat.le_of_ble_eq_true rfl) ⟨Nat.zero_le _, Nat.zero_le _⟩ dX2_carryOutOne_80 (fun H locs hP hD hS => ?_)
          exact w_X2_carryOutOne_83 CX hK hsz (opened - 1) bench_parts z80.1 z80.2.1 z80.2.2 _ _ _ h hP hD hS (lv_sub hl [] rfl)
        · have h := o_t c61 h
          refine lv_aload_n hx hb dX2_carryOutOne_64 rfl (lv_at hl 0 rfl) ?_
          refine r_get F hK hP 0 1 rfl inW_X2 wm_166 rfl (by decide) rfl dX2_carryOutOne_65 ?_
          obtain ⟨z68, hz68, h⟩ := o_b h
          refine k_v (wn := (ws_X2_carryOutOne cI cJ cB a0 a_bytes a_sum a_waiting a_bench a_bench_tree a_bench_tree_cells a_bench_starts a_bench_looses length waits at_ (opened - 1) parens great bench_parts bench_tree_rows z68 bench_tree_cells_n bench_starts bench_looses)) (As := []) (rest := []) F hNw hK hP hD hS hA (c_X0_negateLast l D cI cJ cB a_bench a_bench_looses a_bench_tree a_bench_tree_cells a_bench_starts _ bench_parts bench_tree_rows bench_tree_cells bench_tree_cells_n bench_starts N hz68) wm_786 cv_X0_negateLast [1, 2, 3, 4] [0, 5] [0, 2, 3, 4, 5, 1] (⟨rfl, rfl, rfl, by decide, rfl⟩ : Ix [1, 2, 3, 4] [0, 5] [0, 2, 3, 4, 5, 1] 6) rfl rfl rfl rfl rfl rfl ⟨rfl, rfl, by decide, by decide⟩ hl.1 rfl (Nat.le_of_ble_eq_true rfl) ⟨Nat.zero_le _, Nat.zero_le _⟩ dX2_carryOutOne_68 (fun H locs hP hD hS => ?_)
          refine lv_goto (tgt := 83) hx hb dX2_carryOutOne_71 (by decide) ?_
          exact w_X2_carryOutOne_83 CX hK hsz (opened - 1) bench_parts bench_tree_rows z68 bench_looses _ _ _ h hP hD hS (lv_sub hl [] rfl)
      · have h := o_t c26 h
        refine lv_aload_n hx hb dX2_carryOutOne_29 rfl (lv_at hl 0 rfl) ?_
        refine r_get F hK hP 0 1 rfl inW_X2 wm_166 rfl (by decide) rfl dX2_carryOutOne_30 ?_
        obtain ⟨z33, hz33, h⟩ := o_b h
        refine k_v (wn := (ws_X2_carryOutOne cI cJ cB a0 a_bytes a_sum a_waiting a_bench a_bench_tree a_bench_tree_cells a_bench_starts a_bench_looses length waits at_ opened parens great bench_parts bench_tree_rows z33 bench_tree_cells_n bench_starts bench_looses)) (As := []) (rest := []) F hNw hK hP hD hS hA (c_X0_negateLastButOne l D cI cJ cB a_bench a_bench_looses a_bench_tree a_bench_tree_cells a_bench_starts _ bench_parts bench_tree_rows bench_tree_cells bench_tree_cells_n bench_starts N hz33) wm_777 cv_X0_negateLastButOne [1, 2, 3, 4] [0, 5] [0, 2, 3, 4, 5, 1] (⟨rfl, rfl, rfl, by decide, rfl⟩ : Ix [1, 2, 3, 4] [0, 5] [0, 2, 3, 4, 5, 1] 6) rfl rfl rfl rfl rfl rfl ⟨rfl, rfl, by decide, by decide⟩ hl.1 rfl (Nat.le_of_ble_eq_true rfl) ⟨Nat.zero_le _, Nat.zero_le _⟩ dX2_carryOutOne_33 (fun H locs hP hD hS => ?_)
        refine lv_aload_n hx hb dX2_carryOutOne_36 rfl (lv_at hl 0 rfl) ?_
        refine r_get F hK hP 0 1 rfl inW_X2 wm_166 rfl (by decide) rfl dX2_carryOutOne_37 ?_
        refine lv_bipush (v := 7) hx hb dX2_carryOutOne_40 (by decide) ?_
        obtain ⟨z42, hz42, h⟩ := o_b h
        refine k_v (wn := (ws_X2_carryOutOne cI cJ cB a0 a_bytes a_sum a_waiting a_bench a_bench_tree a_bench_tree_cells a_bench_starts a_bench_looses length waits at_ opened parens great z42.1 z42.2.1 z42.2.2.1 bench_tree_cells_n bench_starts z42.2.2.2)) (As := [.int 7]) (rest := []) F hNw hK hP hD hS hA (c_X0_join l D cI cJ cB a_bench a_bench_tree a_bench_tree_cells a_bench_starts a_bench_looses _ bench_parts bench_tree_rows z33 bench_tree_cells_n bench_starts bench_looses 7 N hz42) wm_756 cv_X0_join [1, 2, 3, 4, 5] [0] [0, 1, 2, 3, 4, 5] (⟨rfl, rfl, rfl, by decide, rfl⟩ : Ix [1, 2, 3, 4, 5] [0] [0, 1, 2, 3, 4, 5] 6) rfl rfl rfl rfl rfl rfl ⟨rfl, rfl, by decide, by decide⟩ hl.1 rfl (Nat.le_of_ble_eq_true rfl) ⟨Nat.zero_le _, Nat.zero_le _⟩ dX2_carryOutOne_42 (fun H locs hP hD hS => ?_)
        refine lv_goto (tgt := 83) hx hb dX2_carryOutOne_45 (by decide) ?_
        exact w_X2_carryOutOne_83 CX hK hsz opened z42.1 z42.2.1 z42.2.2.1 z42.2.2.2 _ _ _ h hP hD hS (lv_sub hl [] rfl)
    · have h := o_t c9 h
      exact w_X2_carryOutOne_12 CX hK hsz opened bench_parts bench_tree_rows bench_tree_cells bench_looses x1 _ _ _ h hP hD hS (lv_sub hl [0, 1] rfl)
section G_X2_pushAtom
abbrev ws_X2_pushAtom (cI cJ cB : ClassId) (a0 a_bytes a_waiting a_bench a_bench_tree a_bench_tree_cells a_bench_starts a_bench_looses a_sum a_sum_numbers : Nat) (length : Int32) (waits : Int32) (at_ : Int32) (opened : Int32) (parens : Int32) (great : Int32) (bench_parts : Int32) (bench_tree_rows : Int32) (bench_tree_cells : Nat → Int32) (bench_tree_cells_n : Nat) (bench_starts : Nat → Int32) (bench_looses : Nat → Int32) (sum_numbers : Nat → Int64) : va_W := [(a0, .inr (4, [.ref a_bytes, .ref a_bench, .ref a_sum, .ref a_waiting, .int length, .int waits, .int at_, .int opened, .int parens, .int great])), (a_bench, .inr (2, [.ref a_bench_tree, .ref a_bench_starts, .ref a_bench_looses, .int bench_parts])), (a_bench_tree, .inr (7, [.ref a_bench_tree_cells, .int bench_tree_rows])), (a_bench_tree_cells, .inl (cI, bench_tree_cells_n, .inl bench_tree_cells)), (a_bench_starts, .inl (cI, 402, .inl bench_starts)), (a_bench_looses, .inl (cI, 402, .inl bench_looses)), (a_sum, .inr (6, [.ref a_sum_numbers])), (a_sum_numbers, .inl (cJ, 9, .inr (.inl sum_numbers)))]
abbrev rm_X2_pushAtom : Room := { frames := 4, cells := 0, slots := 0, locals := 92 }
def f_X2_pushAtom_48 (N : Nat) (great : Int32) (bench_parts : Int32) (bench_tree_rows : Int32) (bench_tree_cells : Nat → Int32) (bench_tree_cells_n : Nat) (bench_starts : Nat → Int32) (bench_looses : Nat → Int32) (sum_numbers : Nat → Int64) (s2 : Int32) : Option ((Int32) × (Int32) × (Int32) × (Nat → Int32) × (Nat → Int32) × (Nat → Int32) × (Nat → Int64)) := (f_X0_pushSettled N bench_parts bench_tree_rows bench_tree_cells bench_tree_cells_n bench_starts bench_looses sum_numbers s2).bind (fun z48 => some (great, z48.1, z48.2.1, z48.2.2.1, z48.2.2.2.1, z48.2.2.2.2, sum_numbers))
def f_X2_pushAtom_25 (N : Nat) (great : Int32) (bench_parts : Int32) (bench_tree_rows : Int32) (bench_tree_cells : Nat → Int32) (bench_tree_cells_n : Nat) (bench_starts : Nat → Int32) (bench_looses : Nat → Int32) (sum_numbers : Nat → Int64) (y2 : Int32) (s1 : Int32) (s2 : Int32) : Option ((Int32) × (Int32) × (Int32) × (Nat → Int32) × (Nat → Int32) × (Nat → Int32) × (Nat → Int64)) := ckp ((s1 ||| s2) = 0 ∨ (s1 ||| s2) = 1) (ifb (y2 = (-2)) (f_X2_pushAtom_48 N (s1 ||| s2) bench_parts bench_tree_rows bench_tree_cells bench_tree_cells_n bench_starts bench_looses sum_numbers 0) (f_X2_pushAtom_48 N (s1 ||| s2) bench_parts bench_tree_rows bench_tree_cells bench_tree_cells_n bench_starts bench_looses sum_numbers y2))
def f_X2_pushAtom (N : Nat) (great : Int32) (bench_parts : Int32) (bench_tree_rows : Int32) (bench_tree_cells : Nat → Int32) (bench_tree_cells_n : Nat) (bench_starts : Nat → Int32) (bench_looses : Nat → Int32) (sum_numbers : Nat → Int64) (x1 : Int32) : Option ((Int32) × (Int32) × (Int32) × (Nat → Int32) × (Nat → Int32) × (Nat → Int32) × (Nat → Int64)) := (f_X4_settle N sum_numbers x1).bind (fun z5 => ifb (z5.1 = (-2)) (f_X2_pushAtom_25 N great bench_parts bench_tree_rows bench_tree_cells bench_tree_cells_n bench_starts bench_looses z5.2 z5.1 great 1) (f_X2_pushAtom_25 N great bench_parts bench_tree_rows bench_tree_cells bench_tree_cells_n bench_starts bench_looses z5.2 z5.1 great 0))
variable {p : Program} {l : Launch} {e : Env} {s : State} {m : MethodId} {below : List Frame} {meth : Method} {c : Code} {args : Array Value} {x0 : Cond} {D : va_G} {cI cJ cB : ClassId} {sz N : Nat} {ws0 : va_W} {a0 a_bytes a_waiting a_bench a_bench_tree a_bench_tree_cells a_bench_starts a_bench_looses a_sum a_sum_numbers : Nat} {length : Int32} {waits : Int32} {at_ : Int32} {opened : Int32} {parens : Int32} {bench_tree_cells_n : Nat} {z : (Int32) × (Int32) × (Int32) × (Nat → Int32) × (Nat → Int32) × (Nat → Int32) × (Nat → Int64)}
set_option maxHeartbeats 4000000 in
set_option maxRecDepth 100000 in
theorem w_X2_pushAtom_48 (CX : Cx p m c cX2_pushAtom 3 s args x0 RX2 meth none) (hK : va_K D vwCl (ty0 cI cJ cB) s) (hsz : s.heap.size = sz) : ∀ (great : Int32) (bench_parts : Int32) (bench_tree_rows : Int32) (bench_tree_cells : Nat → Int32) (bench_starts : Nat → Int32) (bench_looses : Nat → Int32) (sum_numbers : Nat → Int64) (s2 : Int32) (H : Heap) (locs : List Loc) (ls : Array Slot), f_X2_pushAtom_48 N great bench_parts bench_tree_rows bench_tree_cells bench_tree_cells_n bench_starts bench_looses sum_numbers s2 = some z → va_P D vwCl (ws_X2_pushAtom cI cJ cB a0 a_bytes a_waiting a_bench a_bench_tree a_bench_tree_cells a_bench_starts a_bench_looses a_sum a_sum_numbers length waits at_ opened parens great bench_parts bench_tree_rows bench_tree_cells bench_tree_cells_n bench_starts bench_looses sum_numbers) H → va_D (va_A ws0 sz) (ws_X2_pushAtom cI cJ cB a0 a_bytes a_waiting a_bench a_bench_tree a_bench_tree_cells a_bench_starts a_bench_looses a_sum a_sum_numbers length waits at_ opened parens great bench_parts bench_tree_rows bench_tree_cells bench_tree_cells_n bench_starts bench_looses sum_numbers) → va_S (va_A ws0 sz) s.heap H locs → lv_has ls 3 [] → W p l e rm_X2_pushAtom s m args below meth c H locs 0 0 (MQ below (gQ D sz ws0 (ws_X2_pushAtom cI cJ cB a0 a_bytes a_waiting a_bench a_bench_tree a_bench_tree_cells a_bench_starts a_bench_looses a_sum a_sum_numbers length waits at_ opened parens z.1 z.2.1 z.2.2.1 z.2.2.2.1 bench_tree_cells_n z.2.2.2.2.1 z.2.2.2.2.2.1 z.2.2.2.2.2.2) none) args s 0 0 (va_A ws0 sz)) (F0 m 48 ls [.int s2, .ref a_sum, .ref a_bench]) := by
  obtain ⟨F, hr, hlk, hNw⟩ := id CX
  have hx := F.1
  have hb := F.2.1
  have hown := F.2.2.2.1
  have hA : ∀ q, s.heap.size ≤ q → va_A ws0 sz q := fun q hq => Or.inr (hsz ▸ hq)
  intro great bench_parts bench_tree_rows bench_tree_cells bench_starts bench_looses sum_numbers s2 H locs ls h hP hD hS hl
  unfold f_X2_pushAtom_48 at h
  obtain ⟨z48, hz48, h⟩ := o_b h
  refine k_v (wn := (ws_X2_pushAtom cI cJ cB a0 a_bytes a_waiting a_bench a_bench_tree a_bench_tree_cells a_bench_starts a_bench_looses a_sum a_sum_numbers length waits at_ opened parens great z48.1 z48.2.1 z48.2.2.1 bench_tree_cells_n z48.2.2.2.1 z48.2.2.2.2 sum_numbers)) (As := [.ref a_sum, .int s2]) (rest := []) F hNw hK hP hD hS hA (c_X0_pushSettled l D cI cJ cB a_bench a_bench_tree a_bench_tree_cells a_bench_starts a_bench_looses a_sum a_sum_numbers _ bench_parts bench_tree_rows bench_tree_cells bench_tree_cells_n bench_starts bench_looses sum_numbers s2 N hz48) wm_729 cv_X0_pushSettled [1, 2, 3, 4, 5, 6, 7] [0] [0, 1, 2, 3, 4, 5, 6, 7] (⟨rfl, rfl, rfl, by decide, rfl⟩ : Ix [1, 2, 3, 4, 5, 6, 7] [0] [0, 1, 2, 3, 4, 5, 6, 7] 8) rfl rfl rfl rfl rfl rfl ⟨rfl, rfl, by decide, by decide⟩ hl.1 rfl (Nat.le_of_ble_eq_true rfl) ⟨Nat.zero_le _, Nat.zero_le _⟩ dX2_pushAtom_48 (fun H locs hP hD hS => ?_)
  obtain rfl := Option.some.inj h
  exact r_vret F hr hlk dX2_pushAtom_51 hsz hP hD hS
set_option maxHeartbeats 4000000 in
set_option maxRecDepth 100000 in
theorem w_X2_pushAtom_25 (CX : Cx p m c cX2_pushAtom 3 s args x0 RX2 meth none) (hK : va_K D vwCl (ty0 cI cJ cB) s) (hsz : s.heap.size = sz) : ∀ (great : Int32) (bench_parts : Int32) (bench_tree_rows : Int32) (bench_tree_cells : Nat → Int32) (bench_starts : Nat → Int32) (bench_looses : Nat → Int32) (sum_numbers : Nat → Int64) (y2 : Int32) (s1 : Int32) (s2 : Int32) (H : Heap) (locs : List Loc) (ls : Array Slot), f_X2_pushAtom_25 N great bench_parts bench_tree_rows bench_tree_cells bench_tree_cells_n bench_starts bench_looses sum_numbers y2 s1 s2 = some z → va_P D vwCl (ws_X2_pushAtom cI cJ cB a0 a_bytes a_waiting a_bench a_bench_tree a_bench_tree_cells a_bench_starts a_bench_looses a_sum a_sum_numbers length waits at_ opened parens great bench_parts bench_tree_rows bench_tree_cells bench_tree_cells_n bench_starts bench_looses sum_numbers) H → va_D (va_A ws0 sz) (ws_X2_pushAtom cI cJ cB a0 a_bytes a_waiting a_bench a_bench_tree a_bench_tree_cells a_bench_starts a_bench_looses a_sum a_sum_numbers length waits at_ opened parens great bench_parts bench_tree_rows bench_tree_cells bench_tree_cells_n bench_starts bench_looses sum_numbers) → va_S (va_A ws0 sz) s.heap H locs → lv_has ls 3 [(0, .ref a0), (2, .int y2)] → W p l e rm_X2_pushAtom s m args below meth c H locs 0 0 (MQ below (gQ D sz ws0 (ws_X2_pushAtom cI cJ cB a0 a_bytes a_waiting a_bench a_bench_tree a_bench_tree_cells a_bench_starts a_bench_looses a_sum a_sum_numbers length waits at_ opened parens z.1 z.2.1 z.2.2.1 z.2.2.2.1 bench_tree_cells_n z.2.2.2.2.1 z.2.2.2.2.2.1 z.2.2.2.2.2.2) none) args s 0 0 (va_A ws0 sz)) (F0 m 25 ls [.int s2, .int s1, .ref a0]) := by
  obtain ⟨F, hr, hlk, hNw⟩ := id CX
  have hx := F.1
  have hb := F.2.1
  have hown := F.2.2.2.1
  have hA : ∀ q, s.heap.size ≤ q → va_A ws0 sz q := fun q hq => Or.inr (hsz ▸ hq)
  intro great bench_parts bench_tree_rows bench_tree_cells bench_starts bench_looses sum_numbers y2 s1 s2 H locs ls h hP hD hS hl
  unfold f_X2_pushAtom_25 at h
  refine lv_ior hx hb dX2_pushAtom_25 ?_
  obtain ⟨hc26, h⟩ := o_c h
  refine r_put (wn := (ws_X2_pushAtom cI cJ cB a0 a_bytes a_waiting a_bench a_bench_tree a_bench_tree_cells a_bench_starts a_bench_looses a_sum a_sum_numbers length waits at_ opened parens (s1 ||| s2) bench_parts bench_tree_rows bench_tree_cells bench_tree_cells_n bench_starts bench_looses sum_numbers)) F hK hP hD hS 0 9 rfl inW_X2 wm_176 tyX2_ok nmX2 rfl rfl (by decide) (nb01 hc26) (fb01 hc26) (Nat.le_of_ble_eq_true rfl) rfl dX2_pushAtom_26 (fun H locs hP hD hS => ?_)
  refine lv_aload_n hx hb dX2_pushAtom_29 rfl (lv_at hl 0 rfl) ?_
  refine r_get F hK hP 0 1 rfl inW_X2 wm_166 rfl (by decide) rfl dX2_pushAtom_30 ?_
  refine lv_aload_n hx hb dX2_pushAtom_33 rfl (lv_at hl 0 rfl) ?_
  refine r_get F hK hP 0 2 rfl inW_X2 wm_168 rfl (by decide) rfl dX2_pushAtom_34 ?_
  refine lv_iload_n hx hb dX2_pushAtom_37 rfl (lv_at hl 1 rfl) ?_
  refine lv_bipush (v := (-2)) hx hb dX2_pushAtom_38 (by decide) ?_
  refine lv_icmp_ne (tgt := 47) hx hb dX2_pushAtom_40 (by decide) (fun c40 => ?_) (fun c40 => ?_)
  · have h := o_f c40 h
    refine lv_iload_n hx hb dX2_pushAtom_47 rfl (lv_at hl 1 rfl) ?_
    exact w_X2_pushAtom_48 CX hK hsz (s1 ||| s2) bench_parts bench_tree_rows bench_tree_cells bench_starts bench_looses sum_numbers y2 _ _ _ h hP hD hS (lv_sub hl [] rfl)
  · have h := o_t c40 h
    refine lv_iconst (v := 0) hx hb dX2_pushAtom_43 (by decide) ?_
    refine lv_goto (tgt := 48) hx hb dX2_pushAtom_44 (by decide) ?_
    exact w_X2_pushAtom_48 CX hK hsz (s1 ||| s2) bench_parts bench_tree_rows bench_tree_cells bench_starts bench_looses sum_numbers 0 _ _ _ h hP hD hS (lv_sub hl [] rfl)
end G_X2_pushAtom
set_option maxHeartbeats 4000000 in
set_option maxRecDepth 100000 in
theorem c_X2_pushAtom (l : Launch) (D : va_G) (cI cJ cB : ClassId) (a0 a_bytes a_waiting a_bench a_bench_tree a_bench_tree_cells a_bench_starts a_bench_looses a_sum a_sum_numbers : Nat) (sz : Nat) (length : Int32) (waits : Int32) (at_ : Int32) (opened : Int32) (parens : Int32) (great : Int32) (bench_parts : Int32) (bench_tree_rows : Int32) (bench_tree_cells : Nat → Int32) (bench_tree_cells_n : Nat) (bench_starts : Nat → Int32) (bench_looses : Nat → Int32) (sum_numbers : Nat → Int64) (x1 : Int32) (N : Nat) {z : (Int32) × (Int32) × (Int32) × (Nat → Int32) × (Nat → Int32) × (Nat → Int32) × (Nat → Int64)} (h : f_X2_pushAtom N great bench_parts bench_tree_rows bench_tree_cells bench_tree_cells_n bench_starts bench_looses sum_numbers x1 = some z) : Mg l yX2_pushAtom cX2_pushAtom 3 none rm_X2_pushAtom D (ty0 cI cJ cB) [.ref a0, .int x1] sz (ws_X2_pushAtom cI cJ cB a0 a_bytes a_waiting a_bench a_bench_tree a_bench_tree_cells a_bench_starts a_bench_looses a_sum a_sum_numbers length waits at_ opened parens great bench_parts bench_tree_rows bench_tree_cells bench_tree_cells_n bench_starts bench_looses sum_numbers) none (ws_X2_pushAtom cI cJ cB a0 a_bytes a_waiting a_bench a_bench_tree a_bench_tree_cells a_bench_starts a_bench_looses a_sum a_sum_numbers length waits at_ opened parens z.1 z.2.1 z.2.2.1 z.2.2.2.1 bench_tree_cells_n z.2.2.2.2.1 z.2.2.2.2.2.1 z.2.2.2.2.2.2) := by
  refine Mg.of (by decide) (Nat.le_of_ble_eq_true rfl) ?_
  intro p e s m below meth c CX hK hsz hP hD ls hl
  have CX : Cx p m c cX2_pushAtom 3 s ([.ref a0, .int x1] : List Value).toArray (Cond.code yX2_pushAtom cX2_pushAtom 3 none) RX2 meth none := CX
  obtain ⟨F, hr, hlk, hNw⟩ := id CX
  have hx := F.1
  have hb := F.2.1
  have hown := F.2.2.2.1
  have hl : lv_has ls 3 [(0, .ref a0), (1, .int x1)] := hl
  have hS : va_S (va_A (ws_X2_pushAtom cI cJ cB a0 a_bytes a_waiting a_bench a_bench_tree a_bench_tree_cells a_bench_starts a_bench_looses a_sum a_sum_numbers length waits at_ opened parens great bench_parts bench_tree_rows bench_tree_cells bench_tree_cells_n bench_starts bench_looses sum_numbers) sz) s.heap s.heap [] := va_S.rf
  have hA : ∀ q, s.heap.size ≤ q → va_A (ws_X2_pushAtom cI cJ cB a0 a_bytes a_waiting a_bench a_bench_tree a_bench_tree_cells a_bench_starts a_bench_looses a_sum a_sum_numbers length waits at_ opened parens great bench_parts bench_tree_rows bench_tree_cells bench_tree_cells_n bench_starts bench_looses sum_numbers) sz q := fun q hq => Or.inr (hsz ▸ hq)
  unfold f_X2_pushAtom at h
  refine lv_aload_n hx hb dX2_pushAtom_0 rfl (lv_at hl 0 rfl) ?_
  refine r_get F hK hP 0 2 rfl inW_X2 wm_168 rfl (by decide) rfl dX2_pushAtom_1 ?_
  refine lv_iload_n hx hb dX2_pushAtom_4 rfl (lv_at hl 1 rfl) ?_
  obtain ⟨z5, hz5, h⟩ := o_b h
  refine k_v (wn := (ws_X2_pushAtom cI cJ cB a0 a_bytes a_waiting a_bench a_bench_tree a_bench_tree_cells a_bench_starts a_bench_looses a_sum a_sum_numbers length waits at_ opened parens great bench_parts bench_tree_rows bench_tree_cells bench_tree_cells_n bench_starts bench_looses z5.2)) (As := [.int x1]) (rest := []) F hNw hK hP hD hS hA (c_X4_settle l D cI cJ cB a_sum a_sum_numbers _ sum_numbers x1 N hz5) wm_713 cv_X4_settle [6, 7] [0, 1, 2, 3, 4, 5] [0, 1, 2, 3, 4, 5, 6, 7] (⟨rfl, rfl, rfl, by decide, rfl⟩ : Ix [6, 7] [0, 1, 2, 3, 4, 5] [0, 1, 2, 3, 4, 5, 6, 7] 8) rfl rfl rfl rfl rfl rfl ⟨rfl, rfl, by decide, by decide⟩ hl.1 rfl (Nat.le_of_ble_eq_true rfl) ⟨Nat.zero_le _, Nat.zero_le _⟩ dX2_pushAtom_5 (fun H locs hP hD hS => ?_)
  refine lv_istore_n (lv' := [(2, .int z5.1), (0, .ref a0), (1, .int x1)]) hx hb dX2_pushAtom_8 rfl hl (by decide) rfl (fun ls hl => ?_)
  refine lv_aload_n hx hb dX2_pushAtom_9 rfl (lv_at hl 1 rfl) ?_
  refine lv_dup hx hb dX2_pushAtom_10 rfl ?_
  refine r_get F hK hP 0 9 rfl inW_X2 wm_176 rfl (by decide) rfl dX2_pushAtom_11 ?_
  refine lv_iload_n hx hb dX2_pushAtom_14 rfl (lv_at hl 0 rfl) ?_
  refine lv_bipush (v := (-2)) hx hb dX2_pushAtom_15 (by decide) ?_
  refine lv_icmp_ne (tgt := 24) hx hb dX2_pushAtom_17 (by decide) (fun c17 => ?_) (fun c17 => ?_)
  · have h := o_f c17 h
    refine lv_iconst (v := 0) hx hb dX2_pushAtom_24 (by decide) ?_
    exact w_X2_pushAtom_25 CX hK hsz great bench_parts bench_tree_rows bench_tree_cells bench_starts bench_looses z5.2 z5.1 great 0 _ _ _ h hP hD hS (lv_sub hl [1, 0] rfl)
  · have h := o_t c17 h
    refine lv_iconst (v := 1) hx hb dX2_pushAtom_20 (by decide) ?_
    refine lv_goto (tgt := 25) hx hb dX2_pushAtom_21 (by decide) ?_
    exact w_X2_pushAtom_25 CX hK hsz great bench_parts bench_tree_rows bench_tree_cells bench_starts bench_looses z5.2 z5.1 great 1 _ _ _ h hP hD hS (lv_sub hl [1, 0] rfl)
section G_X2_letterAt
abbrev ws_X2_letterAt (cI cJ cB : ClassId) (a0 a_bench a_sum a_waiting a_bytes : Nat) (length : Int32) (waits : Int32) (at_ : Int32) (opened : Int32) (parens : Int32) (great : Int32) (bytes : Nat → Int32) : va_W := [(a0, .inr (4, [.ref a_bytes, .ref a_bench, .ref a_sum, .ref a_waiting, .int length, .int waits, .int at_, .int opened, .int parens, .int great])), (a_bytes, .inl (cB, 240, .inl bytes))]
abbrev rm_X2_letterAt : Room := { frames := 0, cells := 0, slots := 0, locals := 0 }
def f_X2_letterAt_33 (N : Nat) (length : Int32) (bytes : Nat → Int32) (s0 : Int32) : Option (Int32) := some s0
def f_X2_letterAt_32 (N : Nat) (length : Int32) (bytes : Nat → Int32) : Option (Int32) := f_X2_letterAt_33 N length bytes (-1)
def f_X2_letterAt (N : Nat) (length : Int32) (bytes : Nat → Int32) (x1 : Int32) : Option (Int32) := ifb (x1 < 0) (f_X2_letterAt_32 N length bytes) (ifb (length ≤ x1) (f_X2_letterAt_32 N length bytes) (ifb (240 ≤ x1) (f_X2_letterAt_32 N length bytes) (ix x1 240 (f_X2_letterAt_33 N length bytes ((bytes x1.toNatClampNeg) &&& 255)))))
variable {p : Program} {l : Launch} {e : Env} {s : State} {m : MethodId} {below : List Frame} {meth : Method} {c : Code} {args : Array Value} {x0 : Cond} {D : va_G} {cI cJ cB : ClassId} {sz N : Nat} {ws0 : va_W} {a0 a_bench a_sum a_waiting a_bytes : Nat} {length : Int32} {waits : Int32} {at_ : Int32} {opened : Int32} {parens : Int32} {great : Int32} {bytes : Nat → Int32} {z : Int32}
set_option maxHeartbeats 4000000 in
set_option maxRecDepth 100000 in
theorem w_X2_letterAt_33 (CX : Cx p m c cX2_letterAt 2 s args x0 RX2 meth (some .int)) (hK : va_K D vwCl (ty0 cI cJ cB) s) (hsz : s.heap.size = sz) : ∀ (s0 : Int32) (H : Heap) (locs : List Loc) (ls : Array Slot), f_X2_letterAt_33 N length bytes s0 = some z → va_P D vwCl (ws_X2_letterAt cI cJ cB a0 a_bench a_sum a_waiting a_bytes length waits at_ opened parens great bytes) H → va_D (va_A ws0 sz) (ws_X2_letterAt cI cJ cB a0 a_bench a_sum a_waiting a_bytes length waits at_ opened parens great bytes) → va_S (va_A ws0 sz) s.heap H locs → lv_has ls 2 [] → W p l e rm_X2_letterAt s m args below meth c H locs 0 0 (MQ below (gQ D sz ws0 (ws_X2_letterAt cI cJ cB a0 a_bench a_sum a_waiting a_bytes length waits at_ opened parens great bytes) (some (.int z))) args s 0 0 (va_A ws0 sz)) (F0 m 33 ls [.int s0]) := by
  obtain ⟨F, hr, hlk, hNw⟩ := id CX
  have hx := F.1
  have hb := F.2.1
  have hown := F.2.2.2.1
  have hA : ∀ q, s.heap.size ≤ q → va_A ws0 sz q := fun q hq => Or.inr (hsz ▸ hq)
  intro s0 H locs ls h hP hD hS hl
  unfold f_X2_letterAt_33 at h
  obtain rfl := Option.some.inj h
  exact r_ret (v := s0) F hr hlk rfl dX2_letterAt_33 hsz hP hD hS
set_option maxHeartbeats 4000000 in
set_option maxRecDepth 100000 in
theorem w_X2_letterAt_32 (CX : Cx p m c cX2_letterAt 2 s args x0 RX2 meth (some .int)) (hK : va_K D vwCl (ty0 cI cJ cB) s) (hsz : s.heap.size = sz) : ∀ (H : Heap) (locs : List Loc) (ls : Array Slot), f_X2_letterAt_32 N length bytes = some z → va_P D vwCl (ws_X2_letterAt cI cJ cB a0 a_bench a_sum a_waiting a_bytes length waits at_ opened parens great bytes) H → va_D (va_A ws0 sz) (ws_X2_letterAt cI cJ cB a0 a_bench a_sum a_waiting a_bytes length waits at_ opened parens great bytes) → va_S (va_A ws0 sz) s.heap H locs → lv_has ls 2 [] → W p l e rm_X2_letterAt s m args below meth c H locs 0 0 (MQ below (gQ D sz ws0 (ws_X2_letterAt cI cJ cB a0 a_bench a_sum a_waiting a_bytes length waits at_ opened parens great bytes) (some (.int z))) args s 0 0 (va_A ws0 sz)) (F0 m 32 ls []) := by
  obtain ⟨F, hr, hlk, hNw⟩ := id CX
  have hx := F.1
  have hb := F.2.1
  have hown := F.2.2.2.1
  have hA : ∀ q, s.heap.size ≤ q → va_A ws0 sz q := fun q hq => Or.inr (hsz ▸ hq)
  intro  H locs ls h hP hD hS hl
  unfold f_X2_letterAt_32 at h
  refine lv_iconst (v := (-1)) hx hb dX2_letterAt_32 (by decide) ?_
  exact w_X2_letterAt_33 CX hK hsz (-1) _ _ _ h hP hD hS (lv_sub hl [] rfl)
end G_X2_letterAt
set_option maxHeartbeats 4000000 in
set_option maxRecDepth 100000 in
theorem c_X2_letterAt (l : Launch) (D : va_G) (cI cJ cB : ClassId) (a0 a_bench a_sum a_waiting a_bytes : Nat) (sz : Nat) (length : Int32) (waits : Int32) (at_ : Int32) (opened : Int32) (parens : Int32) (great : Int32) (bytes : Nat → Int32) (x1 : Int32) (N : Nat) {z : Int32} (h : f_X2_letterAt N length bytes x1 = some z) : Mg l yX2_letterAt cX2_letterAt 2 (some .int) rm_X2_letterAt D (ty0 cI cJ cB) [.ref a0, .int x1] sz (ws_X2_letterAt cI cJ cB a0 a_bench a_sum a_waiting a_bytes length waits at_ opened parens great bytes) (some (.int z)) (ws_X2_letterAt cI cJ cB a0 a_bench a_sum a_waiting a_bytes length waits at_ opened parens great bytes) := by
  refine Mg.of (by decide) (Nat.le_of_ble_eq_true rfl) ?_
  intro p e s m below meth c CX hK hsz hP hD ls hl
  have CX : Cx p m c cX2_letterAt 2 s ([.ref a0, .int x1] : List Value).toArray (Cond.code yX2_letterAt cX2_letterAt 2 (some .int)) RX2 meth (some .int) := CX
  obtain ⟨F, hr, hlk, hNw⟩ := id CX
  have hx := F.1
  have hb := F.2.1
  have hown := F.2.2.2.1
  have hl : lv_has ls 2 [(0, .ref a0), (1, .int x1)] := hl
  have hS : va_S (va_A (ws_X2_letterAt cI cJ cB a0 a_bench a_sum a_waiting a_bytes length waits at_ opened parens great bytes) sz) s.heap s.heap [] := va_S.rf
  have hA : ∀ q, s.heap.size ≤ q → va_A (ws_X2_letterAt cI cJ cB a0 a_bench a_sum a_waiting a_bytes length waits at_ opened parens great bytes) sz q := fun q hq => Or.inr (hsz ▸ hq)
  unfold f_X2_letterAt at h
  refine lv_iload_n hx hb dX2_letterAt_0 rfl (lv_at hl 1 rfl) ?_
  refine lv_if_lt (tgt := 32) hx hb dX2_letterAt_1 (by decide) (fun c1 => ?_) (fun c1 => ?_)
  · have h := o_t c1 h
    exact w_X2_letterAt_32 CX hK hsz  _ _ _ h hP hD hS (lv_sub hl [] rfl)
  · have h := o_f c1 h
    refine lv_iload_n hx hb dX2_letterAt_4 rfl (lv_at hl 1 rfl) ?_
    refine lv_aload_n hx hb dX2_letterAt_5 rfl (lv_at hl 0 rfl) ?_
    refine r_get F hK hP 0 4 rfl inW_X2 wm_170 rfl (by decide) rfl dX2_letterAt_6 ?_
    refine lv_icmp_ge (tgt := 32) hx hb dX2_letterAt_9 (by decide) (fun c9 => ?_) (fun c9 => ?_)
    · have h := o_t c9 h
      exact w_X2_letterAt_32 CX hK hsz  _ _ _ h hP hD hS (lv_sub hl [] rfl)
    · have h := o_f c9 h
      refine lv_iload_n hx hb dX2_letterAt_12 rfl (lv_at hl 1 rfl) ?_
      refine lv_sipush (v := 240) hx hb dX2_letterAt_13 (by decide) ?_
      refine lv_icmp_ge (tgt := 32) hx hb dX2_letterAt_16 (by decide) (fun c16 => ?_) (fun c16 => ?_)
      · have h := o_t c16 h
        exact w_X2_letterAt_32 CX hK hsz  _ _ _ h hP hD hS (lv_sub hl [] rfl)
      · have h := o_f c16 h
        refine lv_aload_n hx hb dX2_letterAt_19 rfl (lv_at hl 0 rfl) ?_
        refine r_get F hK hP 0 0 rfl inW_X2 wm_165 rfl (by decide) rfl dX2_letterAt_20 ?_
        refine lv_iload_n hx hb dX2_letterAt_23 rfl (lv_at hl 1 rfl) ?_
        obtain ⟨hi24, h⟩ := o_ix h
        refine va_bald hx hb hK hP 1 2 rfl rfl hi24 dX2_letterAt_24 ?_
        refine lv_sipush (v := 255) hx hb dX2_letterAt_25 (by decide) ?_
        refine lv_iand hx hb dX2_letterAt_28 ?_
        refine lv_goto (tgt := 33) hx hb dX2_letterAt_29 (by decide) ?_
        exact w_X2_letterAt_33 CX hK hsz ((bytes x1.toNatClampNeg) &&& 255) _ _ _ h hP hD hS (lv_sub hl [] rfl)
section G_X2_variableOf
abbrev ws_X2_variableOf (cI cJ cB : ClassId) : va_W := []
abbrev rm_X2_variableOf : Room := { frames := 0, cells := 0, slots := 0, locals := 0 }
def f_X2_variableOf_20 (N : Nat) (s0 : Int32) : Option (Int32) := some s0
def f_X2_variableOf_19 (N : Nat) : Option (Int32) := f_X2_variableOf_20 N (-1)
def f_X2_variableOf (N : Nat) (x1 : Int32) : Option (Int32) := ifb (x1 < 97) (f_X2_variableOf_19 N ) (ifb (105 ≤ x1) (f_X2_variableOf_19 N ) (f_X2_variableOf_20 N (x1 - 97)))
variable {p : Program} {l : Launch} {e : Env} {s : State} {m : MethodId} {below : List Frame} {meth : Method} {c : Code} {args : Array Value} {x0 : Cond} {D : va_G} {cI cJ cB : ClassId} {sz N : Nat} {ws0 : va_W} {z : Int32}
set_option maxHeartbeats 4000000 in
set_option maxRecDepth 100000 in
theorem w_X2_variableOf_20 (CX : Cx p m c cX2_variableOf 1 s args x0 RX2 meth (some .int)) (hK : va_K D vwCl (ty0 cI cJ cB) s) (hsz : s.heap.size = sz) : ∀ (s0 : Int32) (H : Heap) (locs : List Loc) (ls : Array Slot), f_X2_variableOf_20 N s0 = some z → va_P D vwCl (ws_X2_variableOf cI cJ cB) H → va_D (va_A ws0 sz) (ws_X2_variableOf cI cJ cB) → va_S (va_A ws0 sz) s.heap H locs → lv_has ls 1 [] → W p l e rm_X2_variableOf s m args below meth c H locs 0 0 (MQ below (gQ D sz ws0 (ws_X2_variableOf cI cJ cB) (some (.int z))) args s 0 0 (va_A ws0 sz)) (F0 m 20 ls [.int s0]) := by
  obtain ⟨F, hr, hlk, hNw⟩ := id CX
  have hx := F.1
  have hb := F.2.1
  have hown := F.2.2.2.1
  have hA : ∀ q, s.heap.size ≤ q → va_A ws0 sz q := fun q hq => Or.inr (hsz ▸ hq)
  intro s0 H locs ls h hP hD hS hl
  unfold f_X2_variableOf_20 at h
  obtain rfl := Option.some.inj h
  exact r_ret (v := s0) F hr hlk rfl dX2_variableOf_20 hsz hP hD hS
set_option maxHeartbeats 4000000 in
set_option maxRecDepth 100000 in
theorem w_X2_variableOf_19 (CX : Cx p m c cX2_variableOf 1 s args x0 RX2 meth (some .int)) (hK : va_K D vwCl (ty0 cI cJ cB) s) (hsz : s.heap.size = sz) : ∀ (H : Heap) (locs : List Loc) (ls : Array Slot), f_X2_variableOf_19 N  = some z → va_P D vwCl (ws_X2_variableOf cI cJ cB) H → va_D (va_A ws0 sz) (ws_X2_variableOf cI cJ cB) → va_S (va_A ws0 sz) s.heap H locs → lv_has ls 1 [] → W p l e rm_X2_variableOf s m args below meth c H locs 0 0 (MQ below (gQ D sz ws0 (ws_X2_variableOf cI cJ cB) (some (.int z))) args s 0 0 (va_A ws0 sz)) (F0 m 19 ls []) := by
  obtain ⟨F, hr, hlk, hNw⟩ := id CX
  have hx := F.1
  have hb := F.2.1
  have hown := F.2.2.2.1
  have hA : ∀ q, s.heap.size ≤ q → va_A ws0 sz q := fun q hq => Or.inr (hsz ▸ hq)
  intro  H locs ls h hP hD hS hl
  unfold f_X2_variableOf_19 at h
  refine lv_iconst (v := (-1)) hx hb dX2_variableOf_19 (by decide) ?_
  exact w_X2_variableOf_20 CX hK hsz (-1) _ _ _ h hP hD hS (lv_sub hl [] rfl)
end G_X2_variableOf
set_option maxHeartbeats 4000000 in
set_option maxRecDepth 100000 in
theorem c_X2_variableOf (l : Launch) (D : va_G) (cI cJ cB : ClassId) (sz : Nat) (x1 : Int32) (N : Nat) {z : Int32} (h : f_X2_variableOf N x1 = some z) : Mg l yX2_variableOf cX2_variableOf 1 (some .int) rm_X2_variableOf D (ty0 cI cJ cB) [.int x1] sz (ws_X2_variableOf cI cJ cB) (some (.int z)) (ws_X2_variableOf cI cJ cB) := by
  refine Mg.of (by decide) (Nat.le_of_ble_eq_true rfl) ?_
  intro p e s m below meth c CX hK hsz hP hD ls hl
  have CX : Cx p m c cX2_variableOf 1 s ([.int x1] : List Value).toArray (Cond.code yX2_variableOf cX2_variableOf 1 (some .int)) RX2 meth (some .int) := CX
  obtain ⟨F, hr, hlk, hNw⟩ := id CX
  have hx := F.1
  have hb := F.2.1
  have hown := F.2.2.2.1
  have hl : lv_has ls 1 [(0, .int x1)] := hl
  have hS : va_S (va_A (ws_X2_variableOf cI cJ cB) sz) s.heap s.heap [] := va_S.rf
  have hA : ∀ q, s.heap.size ≤ q → va_A (ws_X2_variableOf cI cJ cB) sz q := fun q hq => Or.inr (hsz ▸ hq)
  unfold f_X2_variableOf at h
  refine lv_iload_n hx hb dX2_variableOf_0 rfl (lv_at hl 0 rfl) ?_
  refine lv_bipush (v := 97) hx hb dX2_variableOf_1 (by decide) ?_
  refine lv_icmp_lt (tgt := 19) hx hb dX2_variableOf_3 (by decide) (fun c3 => ?_) (fun c3 => ?_)
  · have h := o_t c3 h
    exact w_X2_variableOf_19 CX hK hsz  _ _ _ h hP hD hS (lv_sub hl [] rfl)
  · have h := o_f c3 h
    refine lv_iload_n hx hb dX2_variableOf_6 rfl (lv_at hl 0 rfl) ?_
    refine lv_bipush (v := 105) hx hb dX2_variableOf_7 (by decide) ?_
    refine lv_icmp_ge (tgt := 19) hx hb dX2_variableOf_9 (by decide) (fun c9 => ?_) (fun c9 => ?_)
    · have h := o_t c9 h
      exact w_X2_variableOf_19 CX hK hsz  _ _ _ h hP hD hS (lv_sub hl [] rfl)
    · have h := o_f c9 h
      refine lv_iload_n hx hb dX2_variableOf_12 rfl (lv_at hl 0 rfl) ?_
      refine lv_bipush (v := 97) hx hb dX2_variableOf_13 (by decide) ?_
      refine lv_isub hx hb dX2_variableOf_15 ?_
      refine lv_goto (tgt := 20) hx hb dX2_variableOf_16 (by decide) ?_
      exact w_X2_variableOf_20 CX hK hsz (x1 - 97) _ _ _ h hP hD hS (lv_sub hl [] rfl)
section G_X2_digitOf
abbrev ws_X2_digitOf (cI cJ cB : ClassId) : va_W := []
abbrev rm_X2_digitOf : Room := { frames := 0, cells := 0, slots := 0, locals := 0 }
def f_X2_digitOf_20 (N : Nat) (s0 : Int32) : Option (Int32) := some s0
def f_X2_digitOf_19 (N : Nat) : Option (Int32) := f_X2_digitOf_20 N (-1)
def f_X2_digitOf (N : Nat) (x1 : Int32) : Option (Int32) := ifb (x1 < 48) (f_X2_digitOf_19 N ) (ifb (57 < x1) (f_X2_digitOf_19 N ) (f_X2_digitOf_20 N (x1 - 48)))
variable {p : Program} {l : Launch} {e : Env} {s : State} {m : MethodId} {below : List Frame} {meth : Method} {c : Code} {args : Array Value} {x0 : Cond} {D : va_G} {cI cJ cB : ClassId} {sz N : Nat} {ws0 : va_W} {z : Int32}
set_option maxHeartbeats 4000000 in
set_option maxRecDepth 100000 in
theorem w_X2_digitOf_20 (CX : Cx p m c cX2_digitOf 1 s args x0 RX2 meth (some .int)) (hK : va_K D vwCl (ty0 cI cJ cB) s) (hsz : s.heap.size = sz) : ∀ (s0 : Int32) (H : Heap) (locs : List Loc) (ls : Array Slot), f_X2_digitOf_20 N s0 = some z → va_P D vwCl (ws_X2_digitOf cI cJ cB) H → va_D (va_A ws0 sz) (ws_X2_digitOf cI cJ cB) → va_S (va_A ws0 sz) s.heap H locs → lv_has ls 1 [] → W p l e rm_X2_digitOf s m args below meth c H locs 0 0 (MQ below (gQ D sz ws0 (ws_X2_digitOf cI cJ cB) (some (.int z))) args s 0 0 (va_A ws0 sz)) (F0 m 20 ls [.int s0]) := by
  obtain ⟨F, hr, hlk, hNw⟩ := id CX
  have hx := F.1
  have hb := F.2.1
  have hown := F.2.2.2.1
  have hA : ∀ q, s.heap.size ≤ q → va_A ws0 sz q := fun q hq => Or.inr (hsz ▸ hq)
  intro s0 H locs ls h hP hD hS hl
  unfold f_X2_digitOf_20 at h
  obtain rfl := Option.some.inj h
  exact r_ret (v := s0) F hr hlk rfl dX2_digitOf_20 hsz hP hD hS
set_option maxHeartbeats 4000000 in
set_option maxRecDepth 100000 in
theorem w_X2_digitOf_19 (CX : Cx p m c cX2_digitOf 1 s args x0 RX2 meth (some .int)) (hK : va_K D vwCl (ty0 cI cJ cB) s) (hsz : s.heap.size = sz) : ∀ (H : Heap) (locs : List Loc) (ls : Array Slot), f_X2_digitOf_19 N  = some z → va_P D vwCl (ws_X2_digitOf cI cJ cB) H → va_D (va_A ws0 sz) (ws_X2_digitOf cI cJ cB) → va_S (va_A ws0 sz) s.heap H locs → lv_has ls 1 [] → W p l e rm_X2_digitOf s m args below meth c H locs 0 0 (MQ below (gQ D sz ws0 (ws_X2_digitOf cI cJ cB) (some (.int z))) args s 0 0 (va_A ws0 sz)) (F0 m 19 ls []) := by
  obtain ⟨F, hr, hlk, hNw⟩ := id CX
  have hx := F.1
  have hb := F.2.1
  have hown := F.2.2.2.1
  have hA : ∀ q, s.heap.size ≤ q → va_A ws0 sz q := fun q hq => Or.inr (hsz ▸ hq)
  intro  H locs ls h hP hD hS hl
  unfold f_X2_digitOf_19 at h
  refine lv_iconst (v := (-1)) hx hb dX2_digitOf_19 (by decide) ?_
  exact w_X2_digitOf_20 CX hK hsz (-1) _ _ _ h hP hD hS (lv_sub hl [] rfl)
end G_X2_digitOf
set_option maxHeartbeats 4000000 in
set_option maxRecDepth 100000 in
theorem c_X2_digitOf (l : Launch) (D : va_G) (cI cJ cB : ClassId) (sz : Nat) (x1 : Int32) (N : Nat) {z : Int32} (h : f_X2_digitOf N x1 = some z) : Mg l yX2_digitOf cX2_digitOf 1 (some .int) rm_X2_digitOf D (ty0 cI cJ cB) [.int x1] sz (ws_X2_digitOf cI cJ cB) (some (.int z)) (ws_X2_digitOf cI cJ cB) := by
  refine Mg.of (by decide) (Nat.le_of_ble_eq_true rfl) ?_
  intro p e s m below meth c CX hK hsz hP hD ls hl
  have CX : Cx p m c cX2_digitOf 1 s ([.int x1] : List Value).toArray (Cond.code yX2_digitOf cX2_digitOf 1 (some .int)) RX2 meth (some .int) := CX
  obtain ⟨F, hr, hlk, hNw⟩ := id CX
  have hx := F.1
  have hb := F.2.1
  have hown := F.2.2.2.1
  have hl : lv_has ls 1 [(0, .int x1)] := hl
  have hS : va_S (va_A (ws_X2_digitOf cI cJ cB) sz) s.heap s.heap [] := va_S.rf
  have hA : ∀ q, s.heap.size ≤ q → va_A (ws_X2_digitOf cI cJ cB) sz q := fun q hq => Or.inr (hsz ▸ hq)
  unfold f_X2_digitOf at h
  refine lv_iload_n hx hb dX2_digitOf_0 rfl (lv_at hl 0 rfl) ?_
  refine lv_bipush (v := 48) hx hb dX2_digitOf_1 (by decide) ?_
  refine lv_icmp_lt (tgt := 19) hx hb dX2_digitOf_3 (by decide) (fun c3 => ?_) (fun c3 => ?_)
  · have h := o_t c3 h
    exact w_X2_digitOf_19 CX hK hsz  _ _ _ h hP hD hS (lv_sub hl [] rfl)
  · have h := o_f c3 h
    refine lv_iload_n hx hb dX2_digitOf_6 rfl (lv_at hl 0 rfl) ?_
    refine lv_bipush (v := 57) hx hb dX2_digitOf_7 (by decide) ?_
    refine lv_icmp_gt (tgt := 19) hx hb dX2_digitOf_9 (by decide) (fun c9 => ?_) (fun c9 => ?_)
    · have h := o_t c9 h
      exact w_X2_digitOf_19 CX hK hsz  _ _ _ h hP hD hS (lv_sub hl [] rfl)
    · have h := o_f c9 h
      refine lv_iload_n hx hb dX2_digitOf_12 rfl (lv_at hl 0 rfl) ?_
      refine lv_bipush (v := 48) hx hb dX2_digitOf_13 (by decide) ?_
      refine lv_isub hx hb dX2_digitOf_15 ?_
      refine lv_goto (tgt := 20) hx hb dX2_digitOf_16 (by decide) ?_
      exact w_X2_digitOf_20 CX hK hsz (x1 - 48) _ _ _ h hP hD hS (lv_sub hl [] rfl)
section G_X2_carryOut
abbrev ws_X2_carryOut (cI cJ cB : ClassId) (a0 a_bytes a_sum a_bench a_bench_tree a_bench_tree_cells a_bench_starts a_bench_looses a_waiting : Nat) (length : Int32) (waits : Int32) (at_ : Int32) (opened : Int32) (parens : Int32) (great : Int32) (bench_parts : Int32) (bench_tree_rows : Int32) (bench_tree_cells : Nat → Int32) (bench_tree_cells_n : Nat) (bench_starts : Nat → Int32) (bench_looses : Nat → Int32) (waiting : Nat → Int32) : va_W := [(a0, .inr (4, [.ref a_bytes, .ref a_bench, .ref a_sum, .ref a_waiting, .int length, .int waits, .int at_, .int opened, .int parens, .int great])), (a_bench, .inr (2, [.ref a_bench_tree, .ref a_bench_starts, .ref a_bench_looses, .int bench_parts])), (a_bench_tree, .inr (7, [.ref a_bench_tree_cells, .int bench_tree_rows])), (a_bench_tree_cells, .inl (cI, bench_tree_cells_n, .inl bench_tree_cells)), (a_bench_starts, .inl (cI, 402, .inl bench_starts)), (a_bench_looses, .inl (cI, 402, .inl bench_looses)), (a_waiting, .inl (cI, 240, .inl waiting))]
abbrev rm_X2_carryOut : Room := { frames := 5, cells := 0, slots := 0, locals := 117 }
def f_X2_carryOut_32 (K2 : Int32 → Int32 → Int32 → Int32 → (Nat → Int32) → Nat → (Nat → Int32) → (Nat → Int32) → (Nat → Int32) → Int32 → Int32 → Option ((Int32) × (Int32) × (Int32) × (Int32) × (Nat → Int32) × (Nat → Int32))) (N : Nat) (waits : Int32) (opened : Int32) (bench_parts : Int32) (bench_tree_rows : Int32) (bench_tree_cells : Nat → Int32) (bench_tree_cells_n : Nat) (bench_starts : Nat → Int32) (bench_looses : Nat → Int32) (waiting : Nat → Int32) (y1 : Int32) (y2 : Int32) (s0 : Int32) : Option ((Int32) × (Int32) × (Int32) × (Int32) × (Nat → Int32) × (Nat → Int32)) := (f_X2_tightness N (s0 &&& 15)).bind (fun z41 => ifb (y1 ≤ z41) ((f_X2_carryOutOne N opened bench_parts bench_tree_rows bench_tree_cells bench_tree_cells_n bench_starts bench_looses (s0 &&& 15) (s0 >>> (4 &&& 31))).bind (fun z65 => K2 (waits - 1) z65.1 z65.2.1 z65.2.2.1 z65.2.2.2.1 bench_tree_cells_n bench_starts z65.2.2.2.2 waiting y1 (y2 + 1))) (some (waits, opened, bench_parts, bench_tree_rows, bench_tree_cells, bench_looses)))
def f_X2_carryOut_2 (N : Nat) : Nat → Int32 → Int32 → Int32 → Int32 → (Nat → Int32) → Nat → (Nat → Int32) → (Nat → Int32) → (Nat → Int32) → Int32 → Int32 → Option ((Int32) × (Int32) × (Int32) × (Int32) × (Nat → Int32) × (Nat → Int32))
  | 0 => fun _ _ _ _ _ _ _ _ _ _ _ => none
  | n + 1 => fun waits opened bench_parts bench_tree_rows bench_tree_cells bench_tree_cells_n bench_starts bench_looses waiting y1 y2 => ifb (240 < y2) (some (waits, opened, bench_parts, bench_tree_rows, bench_tree_cells, bench_looses)) (ifb (waits ≤ 0) (f_X2_carryOut_32 (f_X2_carryOut_2 N n) N waits opened bench_parts bench_tree_rows bench_tree_cells bench_tree_cells_n bench_starts bench_looses waiting y1 y2 11) (ix (waits - 1) 240 (f_X2_carryOut_32 (f_X2_carryOut_2 N n) N waits opened bench_parts bench_tree_rows bench_tree_cells bench_tree_cells_n bench_starts bench_looses waiting y1 y2 (waiting (waits - 1).toNatClampNeg))))
def f_X2_carryOut (N : Nat) (waits : Int32) (opened : Int32) (bench_parts : Int32) (bench_tree_rows : Int32) (bench_tree_cells : Nat → Int32) (bench_tree_cells_n : Nat) (bench_starts : Nat → Int32) (bench_looses : Nat → Int32) (waiting : Nat → Int32) (x1 : Int32) : Option ((Int32) × (Int32) × (Int32) × (Int32) × (Nat → Int32) × (Nat → Int32)) := f_X2_carryOut_2 N N waits opened bench_parts bench_tree_rows bench_tree_cells bench_tree_cells_n bench_starts bench_looses waiting x1 0
variable {p : Program} {l : Launch} {e : Env} {s : State} {m : MethodId} {below : List Frame} {meth : Method} {c : Code} {args : Array Value} {x0 : Cond} {D : va_G} {cI cJ cB : ClassId} {sz N : Nat} {ws0 : va_W} {a0 a_bytes a_sum a_bench a_bench_tree a_bench_tree_cells a_bench_starts a_bench_looses a_waiting : Nat} {length : Int32} {at_ : Int32} {parens : Int32} {great : Int32} {bench_tree_cells_n : Nat} {bench_starts : Nat → Int32} {waiting : Nat → Int32} {z : (Int32) × (Int32) × (Int32) × (Int32) × (Nat → Int32) × (Nat → Int32)}
set_option maxHeartbeats 4000000 in
set_option maxRecDepth 100000 in
theorem w_X2_carryOut_32 (CX : Cx p m c cX2_carryOut 5 s args x0 RX2 meth none) (hK : va_K D vwCl (ty0 cI cJ cB) s) (hsz : s.heap.size = sz) {K2 : Int32 → Int32 → Int32 → Int32 → (Nat → Int32) → Nat → (Nat → Int32) → (Nat → Int32) → (Nat → Int32) → Int32 → Int32 → Option ((Int32) × (Int32) × (Int32) × (Int32) × (Nat → Int32) × (Nat → Int32))} (hK2 : ∀ (waits : Int32) (opened : Int32) (bench_parts : Int32) (bench_tree_rows : Int32) (bench_tree_cells : Nat → Int32) (bench_looses : Nat → Int32) (y1 : Int32) (y2 : Int32) (H : Heap) (locs : List Loc) (ls : Array Slot), K2 waits opened bench_parts bench_tree_rows bench_tree_cells bench_tree_cells_n bench_starts bench_looses waiting y1 y2 = some z → va_P D vwCl (ws_X2_carryOut cI cJ cB a0 a_bytes a_sum a_bench a_bench_tree a_bench_tree_cells a_bench_starts a_bench_looses a_waiting length waits at_ opened parens great bench_parts bench_tree_rows bench_tree_cells bench_tree_cells_n bench_starts bench_looses waiting) H → va_D (va_A ws0 sz) (ws_X2_carryOut cI cJ cB a0 a_bytes a_sum a_bench a_bench_tree a_bench_tree_cells a_bench_starts a_bench_looses a_waiting length waits at_ opened parens great bench_parts bench_tree_rows bench_tree_cells bench_tree_cells_n bench_starts bench_looses waiting) → va_S (va_A ws0 sz) s.heap H locs → lv_has ls 5 [(0, .ref a0), (1, .int y1), (2, .int y2)] → W p l e rm_X2_carryOut s m args below meth c H locs 0 0 (MQ below (gQ D sz ws0 (ws_X2_carryOut cI cJ cB a0 a_bytes a_sum a_bench a_bench_tree a_bench_tree_cells a_bench_starts a_bench_looses a_waiting length z.1 at_ z.2.1 parens great z.2.2.1 z.2.2.2.1 z.2.2.2.2.1 bench_tree_cells_n bench_starts z.2.2.2.2.2 waiting) none) args s 0 0 (va_A ws0 sz)) (F0 m 2 ls [])) : ∀ (waits : Int32) (opened : Int32) (bench_parts : Int32) (bench_tree_rows : Int32) (bench_tree_cells : Nat → Int32) (bench_looses : Nat → Int32) (y1 : Int32) (y2 : Int32) (s0 : Int32) (H : Heap) (locs : List Loc) (ls : Array Slot), f_X2_carryOut_32 K2 N waits opened bench_parts bench_tree_rows bench_tree_cells bench_tree_cells_n bench_starts bench_looses waiting y1 y2 s0 = some z → va_P D vwCl (ws_X2_carryOut cI cJ cB a0 a_bytes a_sum a_bench a_bench_tree a_bench_tree_cells a_bench_starts a_bench_looses a_waiting length waits at_ opened parens great bench_parts bench_tree_rows bench_tree_cells bench_tree_cells_n bench_starts bench_looses waiting) H → va_D (va_A ws0 sz) (ws_X2_carryOut cI cJ cB a0 a_bytes a_sum a_bench a_bench_tree a_bench_tree_cells a_bench_starts a_bench_looses a_waiting length waits at_ opened parens great bench_parts bench_tree_rows bench_tree_cells bench_tree_cells_n bench_starts bench_looses waiting) → va_S (va_A ws0 sz) s.heap H locs → lv_has ls 5 [(0, .ref a0), (1, .int y1), (2, .int y2)] → W p l e rm_X2_carryOut s m args below meth c H locs 0 0 (MQ below (gQ D sz ws0 (ws_X2_carryOut cI cJ cB a0 a_bytes a_sum a_bench a_bench_tree a_bench_tree_cells a_bench_starts a_bench_looses a_waiting length z.1 at_ z.2.1 parens great z.2.2.1 z.2.2.2.1 z.2.2.2.2.1 bench_tree_cells_n bench_starts z.2.2.2.2.2 waiting) none) args s 0 0 (va_A ws0 sz)) (F0 m 32 ls [.int s0]) := by
  obtain ⟨F, hr, hlk, hNw⟩ := id CX
  have hx := F.1
  have hb := F.2.1
  have hown := F.2.2.2.1
  have hA : ∀ q, s.heap.size ≤ q → va_A ws0 sz q := fun q hq => Or.inr (hsz ▸ hq)
  intro waits opened bench_parts bench_tree_rows bench_tree_cells bench_looses y1 y2 s0 H locs ls h hP hD hS hl
  unfold f_X2_carryOut_32 at h
  refine lv_istore_n (lv' := [(3, .int s0), (0, .ref a0), (1, .int y1), (2, .int y2)]) hx hb dX2_carryOut_32 rfl hl (by decide) rfl (fun ls hl => ?_)
  refine lv_iload_n hx hb dX2_carryOut_33 rfl (lv_at hl 0 rfl) ?_
  refine lv_bipush (v := 15) hx hb dX2_carryOut_34 (by decide) ?_
  refine lv_iand hx hb dX2_carryOut_36 ?_
  refine lv_istore (lv' := [(4, .int (s0 &&& 15)), (3, .int s0), (0, .ref a0), (1, .int y1), (2, .int y2)]) hx hb dX2_carryOut_37 hl (by decide) rfl (fun ls hl => ?_)
  refine lv_iload hx hb dX2_carryOut_39 (lv_at hl 0 rfl) ?_
  obtain ⟨z41, hz41, h⟩ := o_b h
  refine k_s (wn := (ws_X2_carryOut cI cJ cB a0 a_bytes a_sum a_bench a_bench_tree a_bench_tree_cells a_bench_starts a_bench_looses a_waiting length waits at_ opened parens great bench_parts bench_tree_rows bench_tree_cells bench_tree_cells_n bench_starts bench_looses waiting)) (As := [.int (s0 &&& 15)]) (rest := []) F hNw hK hP hD hS hA (c_X2_tightness l D cI cJ cB _ (s0 &&& 15) N hz41) wm_749 cs_X2_tightness [] [0, 1, 2, 3, 4, 5, 6] [0, 1, 2, 3, 4, 5, 6] (⟨rfl, rfl, rfl, by decide, rfl⟩ : Ix [] [0, 1, 2, 3, 4, 5, 6] [0, 1, 2, 3, 4, 5, 6] 7) rfl rfl rfl ⟨rfl, rfl, by decide, by decide⟩ hl.1 rfl (Nat.le_of_ble_eq_true rfl) ⟨Nat.zero_le _, Nat.zero_le _⟩ dX2_carryOut_41 (fun H locs hP hD hS => ?_)
  refine lv_iload_n hx hb dX2_carryOut_44 rfl (lv_at hl 3 rfl) ?_
  refine lv_icmp_ge (tgt := 49) hx hb dX2_carryOut_45 (by decide) (fun c45 => ?_) (fun c45 => ?_)
  · have h := o_t c45 h
    refine lv_aload_n hx hb dX2_carryOut_49 rfl (lv_at hl 2 rfl) ?_
    refine lv_dup hx hb dX2_carryOut_50 rfl ?_
    refine r_get F hK hP 0 5 rfl inW_X2 wm_172 rfl (by decide) rfl dX2_carryOut_51 ?_
    refine lv_iconst (v := 1) hx hb dX2_carryOut_54 (by decide) ?_
    refine lv_isub hx hb dX2_carryOut_55 ?_
    refine r_put (wn := (ws_X2_carryOut cI cJ cB a0 a_bytes a_sum a_bench a_bench_tree a_bench_tree_cells a_bench_starts a_bench_looses a_waiting length (waits - 1) at_ opened parens great bench_parts bench_tree_rows bench_tree_cells bench_tree_cells_n bench_starts bench_looses waiting)) F hK hP hD hS 0 5 rfl inW_X2 wm_172 tyX2_ok nmX2 rfl rfl (by decide) rfl rfl (Nat.le_of_ble_eq_true rfl) rfl dX2_carryOut_56 (fun H locs hP hD hS => ?_)
    refine lv_aload_n hx hb dX2_carryOut_59 rfl (lv_at hl 2 rfl) ?_
    refine lv_iload hx hb dX2_carryOut_60 (lv_at hl 0 rfl) ?_
    refine lv_iload_n hx hb dX2_carryOut_62 rfl (lv_at hl 1 rfl) ?_
    refine lv_iconst (v := 4) hx hb dX2_carryOut_63 (by decide) ?_
    refine lv_ishr hx hb dX2_carryOut_64 ?_
    obtain ⟨z65, hz65, h⟩ := o_b h
    refine k_v (wn := (ws_X2_carryOut cI cJ cB a0 a_bytes a_sum a_bench a_bench_tree a_bench_tree_cells a_bench_starts a_bench_looses a_waiting length (waits - 1) at_ z65.1 parens great z65.2.1 z65.2.2.1 z65.2.2.2.1 bench_tree_cells_n bench_starts z65.2.2.2.2 waiting)) (As := [.int (s0 &&& 15), .int (s0 >>> (4 &&& 31))]) (rest := []) F hNw hK hP hD hS hA (c_X2_carryOutOne l D cI cJ cB a0 a_bytes a_sum a_waiting a_bench a_bench_tree a_bench_tree_cells a_bench_starts a_bench_looses _ length (waits - 1) at_ opened parens great bench_parts bench_tree_rows bench_tree_cells bench_tree_cells_n bench_starts bench_looses (s0 &&& 15) (s0 >>> (4 &&& 31)) N hz65) wm_752 cv_X2_carryOutOne [0, 1, 2, 3, 4, 5] [6] [1, 2, 3, 4, 5, 6, 0] (⟨rfl, rfl, rfl, by decide, rfl⟩ : Ix [0, 1, 2, 3, 4, 5] [6] [1, 2, 3, 4, 5, 6, 0] 7) rfl rfl rfl rfl rfl rfl ⟨rfl, rfl, by decide, by decide⟩ hl.1 rfl (Nat.le_of_ble_eq_true rfl) ⟨Nat.zero_le _, Nat.zero_le _⟩ dX2_carryOut_65 (fun H locs hP hD hS => ?_)
    refine lv_iinc (v := y2 + 1) (lv' := [(2, .int (y2 + 1)), (4, .int (s0 &&& 15)), (3, .int s0), (0, .ref a0), (1, .int y1)]) hx hb dX2_carryOut_68 hl (k := 4) rfl rfl (by decide) rfl (fun ls hl => ?_)
    refine lv_goto (tgt := 2) hx hb dX2_carryOut_71 (by decide) ?_
    exact hK2 (waits - 1) z65.1 z65.2.1 z65.2.2.1 z65.2.2.2.1 z65.2.2.2.2 y1 (y2 + 1) _ _ _ h hP hD hS (lv_sub hl [3, 4, 0] rfl)
  · have h := o_f c45 h
    obtain rfl := Option.some.inj h
    exact r_vret F hr hlk dX2_carryOut_48 hsz hP hD hS
set_option maxHeartbeats 4000000 in
set_option maxRecDepth 100000 in
theorem w_X2_carryOut_2 (CX : Cx p m c cX2_carryOut 5 s args x0 RX2 meth none) (hK : va_K D vwCl (ty0 cI cJ cB) s) (hsz : s.heap.size = sz) : ∀ (n : Nat), ∀ (waits : Int32) (opened : Int32) (bench_parts : Int32) (bench_tree_rows : Int32) (bench_tree_cells : Nat → Int32) (bench_looses : Nat → Int32) (y1 : Int32) (y2 : Int32) (H : Heap) (locs : List Loc) (ls : Array Slot), f_X2_carryOut_2 N n waits opened bench_parts bench_tree_rows bench_tree_cells bench_tree_cells_n bench_starts bench_looses waiting y1 y2 = some z → va_P D vwCl (ws_X2_carryOut cI cJ cB a0 a_bytes a_sum a_bench a_bench_tree a_bench_tree_cells a_bench_starts a_bench_looses a_waiting length waits at_ opened parens great bench_parts bench_tree_rows bench_tree_cells bench_tree_cells_n bench_starts bench_looses waiting) H → va_D (va_A ws0 sz) (ws_X2_carryOut cI cJ cB a0 a_bytes a_sum a_bench a_bench_tree a_bench_tree_cells a_bench_starts a_bench_looses a_waiting length waits at_ opened parens great bench_parts bench_tree_rows bench_tree_cells bench_tree_cells_n bench_starts bench_looses waiting) → va_S (va_A ws0 sz) s.heap H locs → lv_has ls 5 [(0, .ref a0), (1, .int y1), (2, .int y2)] → W p l e rm_X2_carryOut s m args below meth c H locs 0 0 (MQ below (gQ D sz ws0 (ws_X2_carryOut cI cJ cB a0 a_bytes a_sum a_bench a_bench_tree a_bench_tree_cells a_bench_starts a_bench_looses a_waiting length z.1 at_ z.2.1 parens great z.2.2.1 z.2.2.2.1 z.2.2.2.2.1 bench_tree_cells_n bench_starts z.2.2.2.2.2 waiting) none) args s 0 0 (va_A ws0 sz)) (F0 m 2 ls []) := by
  obtain ⟨F, hr, hlk, hNw⟩ := id CX
  have hx := F.1
  have hb := F.2.1
  have hown := F.2.2.2.1
  have hA : ∀ q, s.heap.size ≤ q → va_A ws0 sz q := fun q hq => Or.inr (hsz ▸ hq)
  intro n
  induction n with
  | zero =>
    intro waits opened bench_parts bench_tree_rows bench_tree_cells bench_looses y1 y2 H locs ls h
    cases h
  | succ n ih =>
    intro waits opened bench_parts bench_tree_rows bench_tree_cells bench_looses y1 y2 H locs ls h hP hD hS hl
    unfold f_X2_carryOut_2 at h
    refine lv_iload_n hx hb dX2_carryOut_2 rfl (lv_at hl 2 rfl) ?_
    refine lv_sipush (v := 240) hx hb dX2_carryOut_3 (by decide) ?_
    refine lv_icmp_gt (tgt := 74) hx hb dX2_carryOut_6 (by decide) (fun c6 => ?_) (fun c6 => ?_)
    · have h := o_t c6 h
      obtain rfl := Option.some.inj h
      exact r_vret F hr hlk dX2_carryOut_74 hsz hP hD hS
    · have h := o_f c6 h
      refine lv_aload_n hx hb dX2_carryOut_9 rfl (lv_at hl 0 rfl) ?_
      refine r_get F hK hP 0 5 rfl inW_X2 wm_172 rfl (by decide) rfl dX2_carryOut_10 ?_
      refine lv_if_le (tgt := 30) hx hb dX2_carryOut_13 (by decide) (fun c13 => ?_) (fun c13 => ?_)
      · have h := o_t c13 h
        refine lv_bipush (v := 11) hx hb dX2_carryOut_30 (by decide) ?_
        exact w_X2_carryOut_32 CX hK hsz (hK2 := ih) waits opened bench_parts bench_tree_rows bench_tree_cells bench_looses y1 y2 11 _ _ _ h hP hD hS (lv_sub hl [0, 1, 2] rfl)
      · have h := o_f c13 h
        refine lv_aload_n hx hb dX2_carryOut_16 rfl (lv_at hl 0 rfl) ?_
        refine r_get F hK hP 0 3 rfl inW_X2 wm_169 rfl (by decide) rfl dX2_carryOut_17 ?_
        refine lv_aload_n hx hb dX2_carryOut_20 rfl (lv_at hl 0 rfl) ?_
        refine r_get F hK hP 0 5 rfl inW_X2 wm_172 rfl (by decide) rfl dX2_carryOut_21 ?_
        refine lv_iconst (v := 1) hx hb dX2_carryOut_24 (by decide) ?_
        refine lv_isub hx hb dX2_carryOut_25 ?_
        obtain ⟨hi26, h⟩ := o_ix h
        refine va_iald hx hb hK hP 6 0 rfl rfl hi26 dX2_carryOut_26 ?_
        refine lv_goto (tgt := 32) hx hb dX2_carryOut_27 (by decide) ?_
        exact w_X2_carryOut_32 CX hK hsz (hK2 := ih) waits opened bench_parts bench_tree_rows bench_tree_cells bench_looses y1 y2 (waiting (waits - 1).toNatClampNeg) _ _ _ h hP hD hS (lv_sub hl [0, 1, 2] rfl)
end G_X2_carryOut
set_option maxHeartbeats 4000000 in
set_option maxRecDepth 100000 in
theorem c_X2_carryOut (l : Launch) (D : va_G) (cI cJ cB : ClassId) (a0 a_bytes a_sum a_bench a_bench_tree a_bench_tree_cells a_bench_starts a_bench_looses a_waiting : Nat) (sz : Nat) (length : Int32) (waits : Int32) (at_ : Int32) (opened : Int32) (parens : Int32) (great : Int32) (bench_parts : Int32) (bench_tree_rows : Int32) (bench_tree_cells : Nat → Int32) (bench_tree_cells_n : Nat) (bench_starts : Nat → Int32) (bench_looses : Nat → Int32) (waiting : Nat → Int32) (x1 : Int32) (N : Nat) {z : (Int32) × (Int32) × (Int32) × (Int32) × (Nat → Int32) × (Nat → Int32)} (h : f_X2_carryOut N waits opened bench_parts bench_tree_rows bench_tree_cells bench_tree_cells_n bench_starts bench_looses waiting x1 = some z) : Mg l yX2_carryOut cX2_carryOut 5 none rm_X2_carryOut D (ty0 cI cJ cB) [.ref a0, .int x1] sz (ws_X2_carryOut cI cJ cB a0 a_bytes a_sum a_bench a_bench_tree a_bench_tree_cells a_bench_starts a_bench_looses a_waiting length waits at_ opened parens great bench_parts bench_tree_rows bench_tree_cells bench_tree_cells_n bench_starts bench_looses waiting) none (ws_X2_carryOut cI cJ cB a0 a_bytes a_sum a_bench a_bench_tree a_bench_tree_cells a_bench_starts a_bench_looses a_waiting length z.1 at_ z.2.1 parens great z.2.2.1 z.2.2.2.1 z.2.2.2.2.1 bench_tree_cells_n bench_starts z.2.2.2.2.2 waiting) := by
  refine Mg.of (by decide) (Nat.le_of_ble_eq_true rfl) ?_
  intro p e s m below meth c CX hK hsz hP hD ls hl
  have CX : Cx p m c cX2_carryOut 5 s ([.ref a0, .int x1] : List Value).toArray (Cond.code yX2_carryOut cX2_carryOut 5 none) RX2 meth none := CX
  obtain ⟨F, hr, hlk, hNw⟩ := id CX
  have hx := F.1
  have hb := F.2.1
  have hown := F.2.2.2.1
  have hl : lv_has ls 5 [(0, .ref a0), (1, .int x1)] := hl
  have hS : va_S (va_A (ws_X2_carryOut cI cJ cB a0 a_bytes a_sum a_bench a_bench_tree a_bench_tree_cells a_bench_starts a_bench_looses a_waiting length waits at_ opened parens great bench_parts bench_tree_rows bench_tree_cells bench_tree_cells_n bench_starts bench_looses waiting) sz) s.heap s.heap [] := va_S.rf
  have hA : ∀ q, s.heap.size ≤ q → va_A (ws_X2_carryOut cI cJ cB a0 a_bytes a_sum a_bench a_bench_tree a_bench_tree_cells a_bench_starts a_bench_looses a_waiting length waits at_ opened parens great bench_parts bench_tree_rows bench_tree_cells bench_tree_cells_n bench_starts bench_looses waiting) sz q := fun q hq => Or.inr (hsz ▸ hq)
  unfold f_X2_carryOut at h
  refine lv_iconst (v := 0) hx hb dX2_carryOut_0 (by decide) ?_
  refine lv_istore_n (lv' := [(2, .int 0), (0, .ref a0), (1, .int x1)]) hx hb dX2_carryOut_1 rfl hl (by decide) rfl (fun ls hl => ?_)
  exact w_X2_carryOut_2 CX hK hsz N waits opened bench_parts bench_tree_rows bench_tree_cells bench_looses x1 0 _ _ _ h hP hD hS (lv_sub hl [1, 2, 0] rfl)
section G_X2_wholeNumber
abbrev ws_X2_wholeNumber (cI cJ cB : ClassId) (a0 a_bench a_sum a_waiting a_bytes : Nat) (length : Int32) (waits : Int32) (at_ : Int32) (opened : Int32) (parens : Int32) (great : Int32) (bytes : Nat → Int32) : va_W := [(a0, .inr (4, [.ref a_bytes, .ref a_bench, .ref a_sum, .ref a_waiting, .int length, .int waits, .int at_, .int opened, .int parens, .int great])), (a_bytes, .inl (cB, 240, .inl bytes))]
abbrev rm_X2_wholeNumber : Room := { frames := 1, cells := 0, slots := 0, locals := 21 }
def f_X2_wholeNumber_52 (N : Nat) (length : Int32) (at_ : Int32) (bytes : Nat → Int32) (y1 : Int32) : Option (Int32 × (Int32)) := some (y1, at_)
def f_X2_wholeNumber_4 (N : Nat) : Nat → Int32 → Int32 → (Nat → Int32) → Int32 → Int32 → Option (Int32 × (Int32))
  | 0 => fun _ _ _ _ _ => none
  | n + 1 => fun length at_ bytes y1 y2 => ifb (4 ≤ y2) (f_X2_wholeNumber_52 N length at_ bytes y1) ((f_X2_letterAt N length bytes at_).bind (fun z14 => (f_X2_digitOf N z14).bind (fun z17 => ifb (z17 = (-1)) (f_X2_wholeNumber_52 N length at_ bytes y1) (f_X2_wholeNumber_4 N n length (at_ + 1) bytes ((10 * y1) + z17) (y2 + 1)))))
def f_X2_wholeNumber (N : Nat) (length : Int32) (at_ : Int32) (bytes : Nat → Int32) : Option (Int32 × (Int32)) := f_X2_wholeNumber_4 N N length at_ bytes 0 0
variable {p : Program} {l : Launch} {e : Env} {s : State} {m : MethodId} {below : List Frame} {meth : Method} {c : Code} {args : Array Value} {x0 : Cond} {D : va_G} {cI cJ cB : ClassId} {sz N : Nat} {ws0 : va_W} {a0 a_bench a_sum a_waiting a_bytes : Nat} {length : Int32} {waits : Int32} {opened : Int32} {parens : Int32} {great : Int32} {bytes : Nat → Int32} {z : Int32 × (Int32)}
set_option maxHeartbeats 4000000 in
set_option maxRecDepth 100000 in
theorem w_X2_wholeNumber_52 (CX : Cx p m c cX2_wholeNumber 4 s args x0 RX2 meth (some .int)) (hK : va_K D vwCl (ty0 cI cJ cB) s) (hsz : s.heap.size = sz) : ∀ (at_ : Int32) (y1 : Int32) (H : Heap) (locs : List Loc) (ls : Array Slot), f_X2_wholeNumber_52 N length at_ bytes y1 = some z → va_P D vwCl (ws_X2_wholeNumber cI cJ cB a0 a_bench a_sum a_waiting a_bytes length waits at_ opened parens great bytes) H → va_D (va_A ws0 sz) (ws_X2_wholeNumber cI cJ cB a0 a_bench a_sum a_waiting a_bytes length waits at_ opened parens great bytes) → va_S (va_A ws0 sz) s.heap H locs → lv_has ls 4 [(1, .int y1)] → W p l e rm_X2_wholeNumber s m args below meth c H locs 0 0 (MQ below (gQ D sz ws0 (ws_X2_wholeNumber cI cJ cB a0 a_bench a_sum a_waiting a_bytes length waits z.2 opened parens great bytes) (some (.int z.1))) args s 0 0 (va_A ws0 sz)) (F0 m 52 ls []) := by
  obtain ⟨F, hr, hlk, hNw⟩ := id CX
  have hx := F.1
  have hb := F.2.1
  have hown := F.2.2.2.1
  have hA : ∀ q, s.heap.size ≤ q → va_A ws0 sz q := fun q hq => Or.inr (hsz ▸ hq)
  intro at_ y1 H locs ls h hP hD hS hl
  unfold f_X2_wholeNumber_52 at h
  refine lv_iload_n hx hb dX2_wholeNumber_52 rfl (lv_at hl 0 rfl) ?_
  obtain rfl := Option.some.inj h
  exact r_ret (v := y1) F hr hlk rfl dX2_wholeNumber_53 hsz hP hD hS
set_option maxHeartbeats 4000000 in
set_option maxRecDepth 100000 in
theorem w_X2_wholeNumber_4 (CX : Cx p m c cX2_wholeNumber 4 s args x0 RX2 meth (some .int)) (hK : va_K D vwCl (ty0 cI cJ cB) s) (hsz : s.heap.size = sz) : ∀ (n : Nat), ∀ (at_ : Int32) (y1 : Int32) (y2 : Int32) (H : Heap) (locs : List Loc) (ls : Array Slot), f_X2_wholeNumber_4 N n length at_ bytes y1 y2 = some z → va_P D vwCl (ws_X2_wholeNumber cI cJ cB a0 a_bench a_sum a_waiting a_bytes length waits at_ opened parens great bytes) H → va_D (va_A ws0 sz) (ws_X2_wholeNumber cI cJ cB a0 a_bench a_sum a_waiting a_bytes length waits at_ opened parens great bytes) → va_S (va_A ws0 sz) s.heap H locs → lv_has ls 4 [(0, .ref a0), (1, .int y1), (2, .int y2)] → W p l e rm_X2_wholeNumber s m args below meth c H locs 0 0 (MQ below (gQ D sz ws0 (ws_X2_wholeNumber cI cJ cB a0 a_bench a_sum a_waiting a_bytes length waits z.2 opened parens great bytes) (some (.int z.1))) args s 0 0 (va_A ws0 sz)) (F0 m 4 ls []) := by
  obtain ⟨F, hr, hlk, hNw⟩ := id CX
  have hx := F.1
  have hb := F.2.1
  have hown := F.2.2.2.1
  have hA : ∀ q, s.heap.size ≤ q → va_A ws0 sz q := fun q hq => Or.inr (hsz ▸ hq)
  intro n
  induction n with
  | zero =>
    intro at_ y1 y2 H locs ls h
    cases h
  | succ n ih =>
    intro at_ y1 y2 H locs ls h hP hD hS hl
    unfold f_X2_wholeNumber_4 at h
    refine lv_iload_n hx hb dX2_wholeNumber_4 rfl (lv_at hl 2 rfl) ?_
    refine lv_iconst (v := 4) hx hb dX2_wholeNumber_5 (by decide) ?_
    refine lv_icmp_ge (tgt := 52) hx hb dX2_wholeNumber_6 (by decide) (fun c6 => ?_) (fun c6 => ?_)
    · have h := o_t c6 h
      exact w_X2_wholeNumber_52 CX hK hsz at_ y1 _ _ _ h hP hD hS (lv_sub hl [1] rfl)
    · have h := o_f c6 h
      refine lv_aload_n hx hb dX2_wholeNumber_9 rfl (lv_at hl 0 rfl) ?_
      refine lv_aload_n hx hb dX2_wholeNumber_10 rfl (lv_at hl 0 rfl) ?_
      refine r_get F hK hP 0 6 rfl inW_X2 wm_173 rfl (by decide) rfl dX2_wholeNumber_11 ?_
      obtain ⟨z14, hz14, h⟩ := o_b h
      refine k_v (wn := (ws_X2_wholeNumber cI cJ cB a0 a_bench a_sum a_waiting a_bytes length waits at_ opened parens great bytes)) (As := [.int at_]) (rest := []) F hNw hK hP hD hS hA (c_X2_letterAt l D cI cJ cB a0 a_bench a_sum a_waiting a_bytes _ length waits at_ opened parens great bytes at_ N hz14) wm_642 cv_X2_letterAt [0, 1] [] [0, 1] (⟨rfl, rfl, rfl, by decide, rfl⟩ : Ix [0, 1] [] [0, 1] 2) rfl rfl rfl rfl rfl rfl ⟨rfl, rfl, by decide, by decide⟩ hl.1 rfl (Nat.le_of_ble_eq_true rfl) ⟨Nat.zero_le _, Nat.zero_le _⟩ dX2_wholeNumber_14 (fun H locs hP hD hS => ?_)
      obtain ⟨z17, hz17, h⟩ := o_b h
      refine k_s (wn := (ws_X2_wholeNumber cI cJ cB a0 a_bench a_sum a_waiting a_bytes length waits at_ opened parens great bytes)) (As := [.int z14]) (rest := []) F hNw hK hP hD hS hA (c_X2_digitOf l D cI cJ cB _ z14 N hz17) wm_694 cs_X2_digitOf [] [0, 1] [0, 1] (⟨rfl, rfl, rfl, by decide, rfl⟩ : Ix [] [0, 1] [0, 1] 2) rfl rfl rfl ⟨rfl, rfl, by decide, by decide⟩ hl.1 rfl (Nat.le_of_ble_eq_true rfl) ⟨Nat.zero_le _, Nat.zero_le _⟩ dX2_wholeNumber_17 (fun H locs hP hD hS => ?_)
      refine lv_istore_n (lv' := [(3, .int z17), (0, .ref a0), (1, .int y1), (2, .int y2)]) hx hb dX2_wholeNumber_20 rfl hl (by decide) rfl (fun ls hl => ?_)
      refine lv_iload_n hx hb dX2_wholeNumber_21 rfl (lv_at hl 0 rfl) ?_
      refine lv_iconst (v := (-1)) hx hb dX2_wholeNumber_22 (by decide) ?_
      refine lv_icmp_ne (tgt := 29) hx hb dX2_wholeNumber_23 (by decide) (fun c23 => ?_) (fun c23 => ?_)
      · have h := o_f c23 h
        refine lv_bipush (v := 10) hx hb dX2_wholeNumber_29 (by decide) ?_
        refine lv_iload_n hx hb dX2_wholeNumber_31 rfl (lv_at hl 2 rfl) ?_
        refine lv_imul hx hb dX2_wholeNumber_32 ?_
        refine lv_iload_n hx hb dX2_wholeNumber_33 rfl (lv_at hl 0 rfl) ?_
        refine lv_iadd hx hb dX2_wholeNumber_34 ?_
        refine lv_istore_n (lv' := [(1, .int ((10 * y1) + z17)), (3, .int z17), (0, .ref a0), (2, .int y2)]) hx hb dX2_wholeNumber_35 rfl hl (by decide) rfl (fun ls hl => ?_)
        refine lv_aload_n hx hb dX2_wholeNumber_36 rfl (lv_at hl 2 rfl) ?_
        refine lv_dup hx hb dX2_wholeNumber_37 rfl ?_
        refine r_get F hK hP 0 6 rfl inW_X2 wm_173 rfl (by decide) rfl dX2_wholeNumber_38 ?_
        refine lv_iconst (v := 1) hx hb dX2_wholeNumber_41 (by decide) ?_
        refine lv_iadd hx hb dX2_wholeNumber_42 ?_
        refine r_put (wn := (ws_X2_wholeNumber cI cJ cB a0 a_bench a_sum a_waiting a_bytes length waits (at_ + 1) opened parens great bytes)) F hK hP hD hS 0 6 rfl inW_X2 wm_173 tyX2_ok nmX2 rfl rfl (by decide) rfl rfl (Nat.le_of_ble_eq_true rfl) rfl dX2_wholeNumber_43 (fun H locs hP hD hS => ?_)
        refine lv_iinc (v := y2 + 1) (lv' := [(2, .int (y2 + 1)), (1, .int ((10 * y1) + z17)), (3, .int z17), (0, .ref a0)]) hx hb dX2_wholeNumber_46 hl (k := 3) rfl rfl (by decide) rfl (fun ls hl => ?_)
        refine lv_goto (tgt := 4) hx hb dX2_wholeNumber_49 (by decide) ?_
        exact ih (at_ + 1) ((10 * y1) + z17) (y2 + 1) _ _ _ h hP hD hS (lv_sub hl [3, 1, 0] rfl)
      · have h := o_t c23 h
        refine lv_goto (tgt := 52) hx hb dX2_wholeNumber_26 (by decide) ?_
        exact w_X2_wholeNumber_52 CX hK hsz at_ y1 _ _ _ h hP hD hS (lv_sub hl [2] rfl)
end G_X2_wholeNumber
set_option maxHeartbeats 4000000 in
set_option maxRecDepth 100000 in
theorem c_X2_wholeNumber (l : Launch) (D : va_G) (cI cJ cB : ClassId) (a0 a_bench a_sum a_waiting a_bytes : Nat) (sz : Nat) (length : Int32) (waits : Int32) (at_ : Int32) (opened : Int32) (parens : Int32) (great : Int32) (bytes : Nat → Int32) (N : Nat) {z : Int32 × (Int32)} (h : f_X2_wholeNumber N length at_ bytes = some z) : Mg l yX2_wholeNumber cX2_wholeNumber 4 (some .int) rm_X2_wholeNumber D (ty0 cI cJ cB) [.ref a0] sz (ws_X2_wholeNumber cI cJ cB a0 a_bench a_sum a_waiting a_bytes length waits at_ opened parens great bytes) (some (.int z.1)) (ws_X2_wholeNumber cI cJ cB a0 a_bench a_sum a_waiting a_bytes length waits z.2 opened parens great bytes) := by
  refine Mg.of (by decide) (Nat.le_of_ble_eq_true rfl) ?_
  intro p e s m below meth c CX hK hsz hP hD ls hl
  have CX : Cx p m c cX2_wholeNumber 4 s ([.ref a0] : List Value).toArray (Cond.code yX2_wholeNumber cX2_wholeNumber 4 (some .int)) RX2 meth (some .int) := CX
  obtain ⟨F, hr, hlk, hNw⟩ := id CX
  have hx := F.1
  have hb := F.2.1
  have hown := F.2.2.2.1
  have hl : lv_has ls 4 [(0, .ref a0)] := hl
  have hS : va_S (va_A (ws_X2_wholeNumber cI cJ cB a0 a_bench a_sum a_waiting a_bytes length waits at_ opened parens great bytes) sz) s.heap s.heap [] := va_S.rf
  have hA : ∀ q, s.heap.size ≤ q → va_A (ws_X2_wholeNumber cI cJ cB a0 a_bench a_sum a_waiting a_bytes length waits at_ opened parens great bytes) sz q := fun q hq => Or.inr (hsz ▸ hq)
  unfold f_X2_wholeNumber at h
  refine lv_iconst (v := 0) hx hb dX2_wholeNumber_0 (by decide) ?_
  refine lv_istore_n (lv' := [(1, .int 0), (0, .ref a0)]) hx hb dX2_wholeNumber_1 rfl hl (by decide) rfl (fun ls hl => ?_)
  refine lv_iconst (v := 0) hx hb dX2_wholeNumber_2 (by decide) ?_
  refine lv_istore_n (lv' := [(2, .int 0), (1, .int 0), (0, .ref a0)]) hx hb dX2_wholeNumber_3 rfl hl (by decide) rfl (fun ls hl => ?_)
  exact w_X2_wholeNumber_4 CX hK hsz N at_ 0 0 _ _ _ h hP hD hS (lv_sub hl [2, 1, 0] rfl)
section G_X2_numberBelow
abbrev ws_X2_numberBelow (cI cJ cB : ClassId) (a0 a_bench a_sum a_waiting a_bytes : Nat) (length : Int32) (waits : Int32) (at_ : Int32) (opened : Int32) (parens : Int32) (great : Int32) (bytes : Nat → Int32) : va_W := [(a0, .inr (4, [.ref a_bytes, .ref a_bench, .ref a_sum, .ref a_waiting, .int length, .int waits, .int at_, .int opened, .int parens, .int great])), (a_bytes, .inl (cB, 240, .inl bytes))]
abbrev rm_X2_numberBelow : Room := { frames := 1, cells := 0, slots := 0, locals := 21 }
def f_X2_numberBelow_80 (N : Nat) (length : Int32) (at_ : Int32) (bytes : Nat → Int32) (y1 : Int32) : Option (Int32 × (Int32)) := some (y1, at_)
def f_X2_numberBelow (N : Nat) (length : Int32) (at_ : Int32) (bytes : Nat → Int32) : Option (Int32 × (Int32)) := (f_X2_letterAt N length bytes (at_ + 1)).bind (fun z15 => (f_X2_digitOf N z15).bind (fun z18 => ifb (1 ≤ z18) ((f_X2_letterAt N length bytes ((at_ + 1) + 1)).bind (fun z44 => (f_X2_digitOf N z44).bind (fun z47 => ifb (z18 = 1) (ifb (z47 < 0) (f_X2_numberBelow_80 N length ((at_ + 1) + 1) bytes z18) (ifb (2 < z47) (f_X2_numberBelow_80 N length ((at_ + 1) + 1) bytes z18) (f_X2_numberBelow_80 N length (((at_ + 1) + 1) + 1) bytes (10 + z47)))) (f_X2_numberBelow_80 N length ((at_ + 1) + 1) bytes z18)))) (some ((-1), at_ + 1))))
variable {p : Program} {l : Launch} {e : Env} {s : State} {m : MethodId} {below : List Frame} {meth : Method} {c : Code} {args : Array Value} {x0 : Cond} {D : va_G} {cI cJ cB : ClassId} {sz N : Nat} {ws0 : va_W} {a0 a_bench a_sum a_waiting a_bytes : Nat} {length : Int32} {waits : Int32} {opened : Int32} {parens : Int32} {great : Int32} {bytes : Nat → Int32} {z : Int32 × (Int32)}
set_option maxHeartbeats 4000000 in
set_option maxRecDepth 100000 in
theorem w_X2_numberBelow_80 (CX : Cx p m c cX2_numberBelow 3 s args x0 RX2 meth (some .int)) (hK : va_K D vwCl (ty0 cI cJ cB) s) (hsz : s.heap.size = sz) : ∀ (at_ : Int32) (y1 : Int32) (H : Heap) (locs : List Loc) (ls : Array Slot), f_X2_numberBelow_80 N length at_ bytes y1 = some z → va_P D vwCl (ws_X2_numberBelow cI cJ cB a0 a_bench a_sum a_waiting a_bytes length waits at_ opened parens great bytes) H → va_D (va_A ws0 sz) (ws_X2_numberBelow cI cJ cB a0 a_bench a_sum a_waiting a_bytes length waits at_ opened parens great bytes) → va_S (va_A ws0 sz) s.heap H locs → lv_has ls 3 [(1, .int y1)] → W p l e rm_X2_numberBelow s m args below meth c H locs 0 0 (MQ below (gQ D sz ws0 (ws_X2_numberBelow cI cJ cB a0 a_bench a_sum a_waiting a_bytes length waits z.2 opened parens great bytes) (some (.int z.1))) args s 0 0 (va_A ws0 sz)) (F0 m 80 ls []) := by
  obtain ⟨F, hr, hlk, hNw⟩ := id CX
  have hx := F.1
  have hb := F.2.1
  have hown := F.2.2.2.1
  have hA : ∀ q, s.heap.size ≤ q → va_A ws0 sz q := fun q hq => Or.inr (hsz ▸ hq)
  intro at_ y1 H locs ls h hP hD hS hl
  unfold f_X2_numberBelow_80 at h
  refine lv_iload_n hx hb dX2_numberBelow_80 rfl (lv_at hl 0 rfl) ?_
  obtain rfl := Option.some.inj h
  exact r_ret (v := y1) F hr hlk rfl dX2_numberBelow_81 hsz hP hD hS
end G_X2_numberBelow
set_option maxHeartbeats 4000000 in
set_option maxRecDepth 100000 in
theorem c_X2_numberBelow (l : Launch) (D : va_G) (cI cJ cB : ClassId) (a0 a_bench a_sum a_waiting a_bytes : Nat) (sz : Nat) (length : Int32) (waits : Int32) (at_ : Int32) (opened : Int32) (parens : Int32) (great : Int32) (bytes : Nat → Int32) (N : Nat) {z : Int32 × (Int32)} (h : f_X2_numberBelow N length at_ bytes = some z) : Mg l yX2_numberBelow cX2_numberBelow 3 (some .int) rm_X2_numberBelow D (ty0 cI cJ cB) [.ref a0] sz (ws_X2_numberBelow cI cJ cB a0 a_bench a_sum a_waiting a_bytes length waits at_ opened parens great bytes) (some (.int z.1)) (ws_X2_numberBelow cI cJ cB a0 a_bench a_sum a_waiting a_bytes length waits z.2 opened parens great bytes) := by
  refine Mg.of (by decide) (Nat.le_of_ble_eq_true rfl) ?_
  intro p e s m below meth c CX hK hsz hP hD ls hl
  have CX : Cx p m c cX2_numberBelow 3 s ([.ref a0] : List Value).toArray (Cond.code yX2_numberBelow cX2_numberBelow 3 (some .int)) RX2 meth (some .int) := CX
  obtain ⟨F, hr, hlk, hNw⟩ := id CX
  have hx := F.1
  have hb := F.2.1
  have hown := F.2.2.2.1
  have hl : lv_has ls 3 [(0, .ref a0)] := hl
  have hS : va_S (va_A (ws_X2_numberBelow cI cJ cB a0 a_bench a_sum a_waiting a_bytes length waits at_ opened parens great bytes) sz) s.heap s.heap [] := va_S.rf
  have hA : ∀ q, s.heap.size ≤ q → va_A (ws_X2_numberBelow cI cJ cB a0 a_bench a_sum a_waiting a_bytes length waits at_ opened parens great bytes) sz q := fun q hq => Or.inr (hsz ▸ hq)
  unfold f_X2_numberBelow at h
  refine lv_aload_n hx hb dX2_numberBelow_0 rfl (lv_at hl 0 rfl) ?_
  refine lv_dup hx hb dX2_numberBelow_1 rfl ?_
  refine r_get F hK hP 0 6 rfl inW_X2 wm_173 rfl (by decide) rfl dX2_numberBelow_2 ?_
  refine lv_iconst (v := 1) hx hb dX2_numberBelow_5 (by decide) ?_
  refine lv_iadd hx hb dX2_numberBelow_6 ?_
  refine r_put (wn := (ws_X2_numberBelow cI cJ cB a0 a_bench a_sum a_waiting a_bytes length waits (at_ + 1) opened parens great bytes)) F hK hP hD hS 0 6 rfl inW_X2 wm_173 tyX2_ok nmX2 rfl rfl (by decide) rfl rfl (Nat.le_of_ble_eq_true rfl) rfl dX2_numberBelow_7 (fun H locs hP hD hS => ?_)
  refine lv_aload_n hx hb dX2_numberBelow_10 rfl (lv_at hl 0 rfl) ?_
  refine lv_aload_n hx hb dX2_numberBelow_11 rfl (lv_at hl 0 rfl) ?_
  refine r_get F hK hP 0 6 rfl inW_X2 wm_173 rfl (by decide) rfl dX2_numberBelow_12 ?_
  obtain ⟨z15, hz15, h⟩ := o_b h
  refine k_v (wn := (ws_X2_numberBelow cI cJ cB a0 a_bench a_sum a_waiting a_bytes length waits (at_ + 1) opened parens great bytes)) (As := [.int (at_ + 1)]) (rest := []) F hNw hK hP hD hS hA (c_X2_letterAt l D cI cJ cB a0 a_bench a_sum a_waiting a_bytes _ length waits (at_ + 1) opened parens great bytes (at_ + 1) N hz15) wm_642 cv_X2_letterAt [0, 1] [] [0, 1] (⟨rfl, rfl, rfl, by decide, rfl⟩ : Ix [0, 1] [] [0, 1] 2) rfl rfl rfl rfl rfl rfl ⟨rfl, rfl, by decide, by decide⟩ hl.1 rfl (Nat.le_of_ble_eq_true rfl) ⟨Nat.zero_le _, Nat.zero_le _⟩ dX2_numberBelow_15 (fun H locs hP hD hS => ?_)
  obtain ⟨z18, hz18, h⟩ := o_b h
  refine k_s (wn := (ws_X2_numberBelow cI cJ cB a0 a_bench a_sum a_waiting a_bytes length waits (at_ + 1) opened parens great bytes)) (As := [.int z15]) (rest := []) F hNw hK hP hD hS hA (c_X2_digitOf l D cI cJ cB _ z15 N hz18) wm_694 cs_X2_digitOf [] [0, 1] [0, 1] (⟨rfl, rfl, rfl, by decide, rfl⟩ : Ix [] [0, 1] [0, 1] 2) rfl rfl rfl ⟨rfl, rfl, by decide, by decide⟩ hl.1 rfl (Nat.le_of_ble_eq_true rfl) ⟨Nat.zero_le _, Nat.zero_le _⟩ dX2_numberBelow_18 (fun H locs hP hD hS => ?_)
  refine lv_istore_n (lv' := [(1, .int z18), (0, .ref a0)]) hx hb dX2_numberBelow_21 rfl hl (by decide) rfl (fun ls hl => ?_)
  refine lv_iload_n hx hb dX2_numberBelow_22 rfl (lv_at hl 0 rfl) ?_
  refine lv_iconst (v := 1) hx hb dX2_numberBelow_23 (by decide) ?_
  refine lv_icmp_ge (tgt := 29) hx hb dX2_numberBelow_24 (by decide) (fun c24 => ?_) (fun c24 => ?_)
  · have h := o_t c24 h
    refine lv_aload_n hx hb dX2_numberBelow_29 rfl (lv_at hl 1 rfl) ?_
    refine lv_dup hx hb dX2_numberBelow_30 rfl ?_
    refine r_get F hK hP 0 6 rfl inW_X2 wm_173 rfl (by decide) rfl dX2_numberBelow_31 ?_
    refine lv_iconst (v := 1) hx hb dX2_numberBelow_34 (by decide) ?_
    refine lv_iadd hx hb dX2_numberBelow_35 ?_
    refine r_put (wn := (ws_X2_numberBelow cI cJ cB a0 a_bench a_sum a_waiting a_bytes length waits ((at_ + 1) + 1) opened parens great bytes)) F hK hP hD hS 0 6 rfl inW_X2 wm_173 tyX2_ok nmX2 rfl rfl (by decide) rfl rfl (Nat.le_of_ble_eq_true rfl) rfl dX2_numberBelow_36 (fun H locs hP hD hS => ?_)
    refine lv_aload_n hx hb dX2_numberBelow_39 rfl (lv_at hl 1 rfl) ?_
    refine lv_aload_n hx hb dX2_numberBelow_40 rfl (lv_at hl 1 rfl) ?_
    refine r_get F hK hP 0 6 rfl inW_X2 wm_173 rfl (by decide) rfl dX2_numberBelow_41 ?_
    obtain ⟨z44, hz44, h⟩ := o_b h
    refine k_v (wn := (ws_X2_numberBelow cI cJ cB a0 a_bench a_sum a_waiting a_bytes length waits ((at_ + 1) + 1) opened parens great bytes)) (As := [.int ((at_ + 1) + 1)]) (rest := []) F hNw hK hP hD hS hA (c_X2_letterAt l D cI cJ cB a0 a_bench a_sum a_waiting a_bytes _ length waits ((at_ + 1) + 1) opened parens great bytes ((at_ + 1) + 1) N hz44) wm_642 cv_X2_letterAt [0, 1] [] [0, 1] (⟨rfl, rfl, rfl, by decide, rfl⟩ : Ix [0, 1] [] [0, 1] 2) rfl rfl rfl rfl rfl rfl ⟨rfl, rfl, by decide, by decide⟩ hl.1 rfl (Nat.le_of_ble_eq_true rfl) ⟨Nat.zero_le _, Nat.zero_le _⟩ dX2_numberBelow_44 (fun H locs hP hD hS => ?_)
    obtain ⟨z47, hz47, h⟩ := o_b h
    refine k_s (wn := (ws_X2_numberBelow cI cJ cB a0 a_bench a_sum a_waiting a_bytes length waits ((at_ + 1) + 1) opened parens great bytes)) (As := [.int z44]) (rest := []) F hNw hK hP hD hS hA (c_X2_digitOf l D cI cJ cB _ z44 N hz47) wm_694 cs_X2_digitOf [] [0, 1] [0, 1] (⟨rfl, rfl, rfl, by decide, rfl⟩ : Ix [] [0, 1] [0, 1] 2) rfl rfl rfl ⟨rfl, rfl, by decide, by decide⟩ hl.1 rfl (Nat.le_of_ble_eq_true rfl) ⟨Nat.zero_le _, Nat.zero_le _⟩ dX2_numberBelow_47 (fun H locs hP hD hS => ?_)
    refine lv_istore_n (lv' := [(2, .int z47), (1, .int z18), (0, .ref a0)]) hx hb dX2_numberBelow_50 rfl hl (by decide) rfl (fun ls hl => ?_)
    refine lv_iload_n hx hb dX2_numberBelow_51 rfl (lv_at hl 1 rfl) ?_
    refine lv_iconst (v := 1) hx hb dX2_numberBelow_52 (by decide) ?_
    refine lv_icmp_ne (tgt := 80) hx hb dX2_numberBelow_53 (by decide) (fun c53 => ?_) (fun c53 => ?_)
    · have h := o_f c53 h
      exact w_X2_numberBelow_80 CX hK hsz ((at_ + 1) + 1) z18 _ _ _ h hP hD hS (lv_sub hl [1] rfl)
    · have h := o_t c53 h
      refine lv_iload_n hx hb dX2_numberBelow_56 rfl (lv_at hl 0 rfl) ?_
      refine lv_if_lt (tgt := 80) hx hb dX2_numberBelow_57 (by decide) (fun c57 => ?_) (fun c57 => ?_)
      · have h := o_t c57 h
        exact w_X2_numberBelow_80 CX hK hsz ((at_ + 1) + 1) z18 _ _ _ h hP hD hS (lv_sub hl [1] rfl)
      · have h := o_f c57 h
        refine lv_iload_n hx hb dX2_numberBelow_60 rfl (lv_at hl 0 rfl) ?_
        refine lv_iconst (v := 2) hx hb dX2_numberBelow_61 (by decide) ?_
        refine lv_icmp_gt (tgt := 80) hx hb dX2_numberBelow_62 (by decide) (fun c62 => ?_) (fun c62 => ?_)
        · have h := o_t c62 h
          exact w_X2_numberBelow_80 CX hK hsz ((at_ + 1) + 1) z18 _ _ _ h hP hD hS (lv_sub hl [1] rfl)
        · have h := o_f c62 h
          refine lv_bipush (v := 10) hx hb dX2_numberBelow_65 (by decide) ?_
          refine lv_iload_n hx hb dX2_numberBelow_67 rfl (lv_at hl 0 rfl) ?_
          refine lv_iadd hx hb dX2_numberBelow_68 ?_
          refine lv_istore_n (lv' := [(1, .int (10 + z47)), (2, .int z47), (0, .ref a0)]) hx hb dX2_numberBelow_69 rfl hl (by decide) rfl (fun ls hl => ?_)
          refine lv_aload_n hx hb dX2_numberBelow_70 rfl (lv_at hl 2 rfl) ?_
          refine lv_dup hx hb dX2_numberBelow_71 rfl ?_
          refine r_get F hK hP 0 6 rfl inW_X2 wm_173 rfl (by decide) rfl dX2_numberBelow_72 ?_
          refine lv_iconst (v := 1) hx hb dX2_numberBelow_75 (by decide) ?_
          refine lv_iadd hx hb dX2_numberBelow_76 ?_
          refine r_put (wn := (ws_X2_numberBelow cI cJ cB a0 a_bench a_sum a_waiting a_bytes length waits (((at_ + 1) + 1) + 1) opened parens great bytes)) F hK hP hD hS 0 6 rfl inW_X2 wm_173 tyX2_ok nmX2 rfl rfl (by decide) rfl rfl (Nat.le_of_ble_eq_true rfl) rfl dX2_numberBelow_77 (fun H locs hP hD hS => ?_)
          exact w_X2_numberBelow_80 CX hK hsz (((at_ + 1) + 1) + 1) (10 + z47) _ _ _ h hP hD hS (lv_sub hl [0] rfl)
  · have h := o_f c24 h
    refine lv_iconst (v := (-1)) hx hb dX2_numberBelow_27 (by decide) ?_
    obtain rfl := Option.some.inj h
    exact r_ret (v := (-1)) F hr hlk rfl dX2_numberBelow_28 hsz hP hD hS
section G_X2_nextLetter
abbrev ws_X2_nextLetter (cI cJ cB : ClassId) (a0 a_bench a_sum a_waiting a_bytes : Nat) (length : Int32) (waits : Int32) (at_ : Int32) (opened : Int32) (parens : Int32) (great : Int32) (bytes : Nat → Int32) : va_W := [(a0, .inr (4, [.ref a_bytes, .ref a_bench, .ref a_sum, .ref a_waiting, .int length, .int waits, .int at_, .int opened, .int parens, .int great])), (a_bytes, .inl (cB, 240, .inl bytes))]
abbrev rm_X2_nextLetter : Room := { frames := 1, cells := 0, slots := 0, locals := 21 }
def f_X2_nextLetter_38 (N : Nat) (length : Int32) (at_ : Int32) (bytes : Nat → Int32) : Option (Int32 × (Int32)) := (f_X2_letterAt N length bytes at_).bind (fun z43 => some (z43, at_))
def f_X2_nextLetter_2 (N : Nat) : Nat → Int32 → Int32 → (Nat → Int32) → Int32 → Option (Int32 × (Int32))
  | 0 => fun _ _ _ _ => none
  | n + 1 => fun length at_ bytes y1 => ifb (240 ≤ y1) (f_X2_nextLetter_38 N length at_ bytes) ((f_X2_letterAt N length bytes at_).bind (fun z14 => ifb (z14 = 32) (f_X2_nextLetter_2 N n length (at_ + 1) bytes (y1 + 1)) (f_X2_nextLetter_38 N length at_ bytes)))
def f_X2_nextLetter (N : Nat) (length : Int32) (at_ : Int32) (bytes : Nat → Int32) : Option (Int32 × (Int32)) := f_X2_nextLetter_2 N N length at_ bytes 0
variable {p : Program} {l : Launch} {e : Env} {s : State} {m : MethodId} {below : List Frame} {meth : Method} {c : Code} {args : Array Value} {x0 : Cond} {D : va_G} {cI cJ cB : ClassId} {sz N : Nat} {ws0 : va_W} {a0 a_bench a_sum a_waiting a_bytes : Nat} {length : Int32} {waits : Int32} {opened : Int32} {parens : Int32} {great : Int32} {bytes : Nat → Int32} {z : Int32 × (Int32)}
set_option maxHeartbeats 4000000 in
set_option maxRecDepth 100000 in
theorem w_X2_nextLetter_38 (CX : Cx p m c cX2_nextLetter 2 s args x0 RX2 meth (some .int)) (hK : va_K D vwCl (ty0 cI cJ cB) s) (hsz : s.heap.size = sz) : ∀ (at_ : Int32) (H : Heap) (locs : List Loc) (ls : Array Slot), f_X2_nextLetter_38 N length at_ bytes = some z → va_P D vwCl (ws_X2_nextLetter cI cJ cB a0 a_bench a_sum a_waiting a_bytes length waits at_ opened parens great bytes) H → va_D (va_A ws0 sz) (ws_X2_nextLetter cI cJ cB a0 a_bench a_sum a_waiting a_bytes length waits at_ opened parens great bytes) → va_S (va_A ws0 sz) s.heap H locs → lv_has ls 2 [(0, .ref a0)] → W p l e rm_X2_nextLetter s m args below meth c H locs 0 0 (MQ below (gQ D sz ws0 (ws_X2_nextLetter cI cJ cB a0 a_bench a_sum a_waiting a_bytes length waits z.2 opened parens great bytes) (some (.int z.1))) args s 0 0 (va_A ws0 sz)) (F0 m 38 ls []) := by
  obtain ⟨F, hr, hlk, hNw⟩ := id CX
  have hx := F.1
  have hb := F.2.1
  have hown := F.2.2.2.1
  have hA : ∀ q, s.heap.size ≤ q → va_A ws0 sz q := fun q hq => Or.inr (hsz ▸ hq)
  intro at_ H locs ls h hP hD hS hl
  unfold f_X2_nextLetter_38 at h
  refine lv_aload_n hx hb dX2_nextLetter_38 rfl (lv_at hl 0 rfl) ?_
  refine lv_aload_n hx hb dX2_nextLetter_39 rfl (lv_at hl 0 rfl) ?_
  refine r_get F hK hP 0 6 rfl inW_X2 wm_173 rfl (by decide) rfl dX2_nextLetter_40 ?_
  obtain ⟨z43, hz43, h⟩ := o_b h
  refine k_v (wn := (ws_X2_nextLetter cI cJ cB a0 a_bench a_sum a_waiting a_bytes length waits at_ opened parens great bytes)) (As := [.int at_]) (rest := []) F hNw hK hP hD hS hA (c_X2_letterAt l D cI cJ cB a0 a_bench a_sum a_waiting a_bytes _ length waits at_ opened parens great bytes at_ N hz43) wm_642 cv_X2_letterAt [0, 1] [] [0, 1] (⟨rfl, rfl, rfl, by decide, rfl⟩ : Ix [0, 1] [] [0, 1] 2) rfl rfl rfl rfl rfl rfl ⟨rfl, rfl, by decide, by decide⟩ hl.1 rfl (Nat.le_of_ble_eq_true rfl) ⟨Nat.zero_le _, Nat.zero_le _⟩ dX2_nextLetter_43 (fun H locs hP hD hS => ?_)
  obtain rfl := Option.some.inj h
  exact r_ret (v := z43) F hr hlk rfl dX2_nextLetter_46 hsz hP hD hS
set_option maxHeartbeats 4000000 in
set_option maxRecDepth 100000 in
theorem w_X2_nextLetter_2 (CX : Cx p m c cX2_nextLetter 2 s args x0 RX2 meth (some .int)) (hK : va_K D vwCl (ty0 cI cJ cB) s) (hsz : s.heap.size = sz) : ∀ (n : Nat), ∀ (at_ : Int32) (y1 : Int32) (H : Heap) (locs : List Loc) (ls : Array Slot), f_X2_nextLetter_2 N n length at_ bytes y1 = some z → va_P D vwCl (ws_X2_nextLetter cI cJ cB a0 a_bench a_sum a_waiting a_bytes length waits at_ opened parens great bytes) H → va_D (va_A ws0 sz) (ws_X2_nextLetter cI cJ cB a0 a_bench a_sum a_waiting a_bytes length waits at_ opened parens great bytes) → va_S (va_A ws0 sz) s.heap H locs → lv_has ls 2 [(0, .ref a0), (1, .int y1)] → W p l e rm_X2_nextLetter s m args below meth c H locs 0 0 (MQ below (gQ D sz ws0 (ws_X2_nextLetter cI cJ cB a0 a_bench a_sum a_waiting a_bytes length waits z.2 opened parens great bytes) (some (.int z.1))) args s 0 0 (va_A ws0 sz)) (F0 m 2 ls []) := by
  obtain ⟨F, hr, hlk, hNw⟩ := id CX
  have hx := F.1
  have hb := F.2.1
  have hown := F.2.2.2.1
  have hA : ∀ q, s.heap.size ≤ q → va_A ws0 sz q := fun q hq => Or.inr (hsz ▸ hq)
  intro n
  induction n with
  | zero =>
    intro at_ y1 H locs ls h
    cases h
  | succ n ih =>
    intro at_ y1 H locs ls h hP hD hS hl
    unfold f_X2_nextLetter_2 at h
    refine lv_iload_n hx hb dX2_nextLetter_2 rfl (lv_at hl 1 rfl) ?_
    refine lv_sipush (v := 240) hx hb dX2_nextLetter_3 (by decide) ?_
    refine lv_icmp_ge (tgt := 38) hx hb dX2_nextLetter_6 (by decide) (fun c6 => ?_) (fun c6 => ?_)
    · have h := o_t c6 h
      exact w_X2_nextLetter_38 CX hK hsz at_ _ _ _ h hP hD hS (lv_sub hl [0] rfl)
    · have h := o_f c6 h
      refine lv_aload_n hx hb dX2_nextLetter_9 rfl (lv_at hl 0 rfl) ?_
      refine lv_aload_n hx hb dX2_nextLetter_10 rfl (lv_at hl 0 rfl) ?_
      refine r_get F hK hP 0 6 rfl inW_X2 wm_173 rfl (by decide) rfl dX2_nextLetter_11 ?_
      obtain ⟨z14, hz14, h⟩ := o_b h
      refine k_v (wn := (ws_X2_nextLetter cI cJ cB a0 a_bench a_sum a_waiting a_bytes length waits at_ opened parens great bytes)) (As := [.int at_]) (rest := []) F hNw hK hP hD hS hA (c_X2_letterAt l D cI cJ cB a0 a_bench a_sum a_waiting a_bytes _ length waits at_ opened parens great bytes at_ N hz14) wm_642 cv_X2_letterAt [0, 1] [] [0, 1] (⟨rfl, rfl, rfl, by decide, rfl⟩ : Ix [0, 1] [] [0, 1] 2) rfl rfl rfl rfl rfl rfl ⟨rfl, rfl, by decide, by decide⟩ hl.1 rfl (Nat.le_of_ble_eq_true rfl) ⟨Nat.zero_le _, Nat.zero_le _⟩ dX2_nextLetter_14 (fun H locs hP hD hS => ?_)
      refine lv_bipush (v := 32) hx hb dX2_nextLetter_17 (by decide) ?_
      refine lv_icmp_ne (tgt := 38) hx hb dX2_nextLetter_19 (by decide) (fun c19 => ?_) (fun c19 => ?_)
      · have h := o_f c19 h
        exact w_X2_nextLetter_38 CX hK hsz at_ _ _ _ h hP hD hS (lv_sub hl [0] rfl)
      · have h := o_t c19 h
        refine lv_aload_n hx hb dX2_nextLetter_22 rfl (lv_at hl 0 rfl) ?_
        refine lv_dup hx hb dX2_nextLetter_23 rfl ?_
        refine r_get F hK hP 0 6 rfl inW_X2 wm_173 rfl (by decide) rfl dX2_nextLetter_24 ?_
        refine lv_iconst (v := 1) hx hb dX2_nextLetter_27 (by decide) ?_
        refine lv_iadd hx hb dX2_nextLetter_28 ?_
        refine r_put (wn := (ws_X2_nextLetter cI cJ cB a0 a_bench a_sum a_waiting a_bytes length waits (at_ + 1) opened parens great bytes)) F hK hP hD hS 0 6 rfl inW_X2 wm_173 tyX2_ok nmX2 rfl rfl (by decide) rfl rfl (Nat.le_of_ble_eq_true rfl) rfl dX2_nextLetter_29 (fun H locs hP hD hS => ?_)
        refine lv_iinc (v := y1 + 1) (lv' := [(1, .int (y1 + 1)), (0, .ref a0)]) hx hb dX2_nextLetter_32 hl (k := 1) rfl rfl (by decide) rfl (fun ls hl => ?_)
        refine lv_goto (tgt := 2) hx hb dX2_nextLetter_35 (by decide) ?_
        exact ih (at_ + 1) (y1 + 1) _ _ _ h hP hD hS (lv_sub hl [1, 0] rfl)
end G_X2_nextLetter
set_option maxHeartbeats 4000000 in
set_option maxRecDepth 100000 in
theorem c_X2_nextLetter (l : Launch) (D : va_G) (cI cJ cB : ClassId) (a0 a_bench a_sum a_waiting a_bytes : Nat) (sz : Nat) (length : Int32) (waits : Int32) (at_ : Int32) (opened : Int32) (parens : Int32) (great : Int32) (bytes : Nat → Int32) (N : Nat) {z : Int32 × (Int32)} (h : f_X2_nextLetter N length at_ bytes = some z) : Mg l yX2_nextLetter cX2_nextLetter 2 (some .int) rm_X2_nextLetter D (ty0 cI cJ cB) [.ref a0] sz (ws_X2_nextLetter cI cJ cB a0 a_bench a_sum a_waiting a_bytes length waits at_ opened parens great bytes) (some (.int z.1)) (ws_X2_nextLetter cI cJ cB a0 a_bench a_sum a_waiting a_bytes length waits z.2 opened parens great bytes) := by
  refine Mg.of (by decide) (Nat.le_of_ble_eq_true rfl) ?_
  intro p e s m below meth c CX hK hsz hP hD ls hl
  have CX : Cx p m c cX2_nextLetter 2 s ([.ref a0] : List Value).toArray (Cond.code yX2_nextLetter cX2_nextLetter 2 (some .int)) RX2 meth (some .int) := CX
  obtain ⟨F, hr, hlk, hNw⟩ := id CX
  have hx := F.1
  have hb := F.2.1
  have hown := F.2.2.2.1
  have hl : lv_has ls 2 [(0, .ref a0)] := hl
  have hS : va_S (va_A (ws_X2_nextLetter cI cJ cB a0 a_bench a_sum a_waiting a_bytes length waits at_ opened parens great bytes) sz) s.heap s.heap [] := va_S.rf
  have hA : ∀ q, s.heap.size ≤ q → va_A (ws_X2_nextLetter cI cJ cB a0 a_bench a_sum a_waiting a_bytes length waits at_ opened parens great bytes) sz q := fun q hq => Or.inr (hsz ▸ hq)
  unfold f_X2_nextLetter at h
  refine lv_iconst (v := 0) hx hb dX2_nextLetter_0 (by decide) ?_
  refine lv_istore_n (lv' := [(1, .int 0), (0, .ref a0)]) hx hb dX2_nextLetter_1 rfl hl (by decide) rfl (fun ls hl => ?_)
  exact w_X2_nextLetter_2 CX hK hsz N at_ 0 _ _ _ h hP hD hS (lv_sub hl [1, 0] rfl)
section G_X2_binder
abbrev ws_X2_binder (cI cJ cB : ClassId) (a0 a_bench a_sum a_bytes a_waiting : Nat) (length : Int32) (waits : Int32) (at_ : Int32) (opened : Int32) (parens : Int32) (great : Int32) (bytes : Nat → Int32) (waiting : Nat → Int32) : va_W := [(a0, .inr (4, [.ref a_bytes, .ref a_bench, .ref a_sum, .ref a_waiting, .int length, .int waits, .int at_, .int opened, .int parens, .int great])), (a_bytes, .inl (cB, 240, .inl bytes)), (a_waiting, .inl (cI, 240, .inl waiting))]
abbrev rm_X2_binder : Room := { frames := 2, cells := 0, slots := 0, locals := 42 }
def f_X2_binder (N : Nat) (length : Int32) (waits : Int32) (at_ : Int32) (bytes : Nat → Int32) (waiting : Nat → Int32) (x1 : Int32) : Option (Int32 × (Int32) × (Int32) × (Nat → Int32)) := (f_X2_nextLetter N length at_ bytes).bind (fun z1 => (f_X2_variableOf N z1.1).bind (fun z4 => ifb (z4 = (-1)) (some (0, waits, z1.2, waiting)) ((f_X2_nextLetter N length (z1.2 + 1) bytes).bind (fun z26 => ifb (z26.1 = 46) ((f_X2_await N waits waiting (x1 ||| (z4 <<< (4 &&& 31)))).bind (fun z52 => some (1, z52.1, z26.2 + 1, z52.2))) (some (0, waits, z26.2, waiting))))))
variable {p : Program} {l : Launch} {e : Env} {s : State} {m : MethodId} {below : List Frame} {meth : Method} {c : Code} {args : Array Value} {x0 : Cond} {D : va_G} {cI cJ cB : ClassId} {sz N : Nat} {ws0 : va_W} {a0 a_bench a_sum a_bytes a_waiting : Nat} {length : Int32} {opened : Int32} {parens : Int32} {great : Int32} {bytes : Nat → Int32} {z : Int32 × (Int32) × (Int32) × (Nat → Int32)}
end G_X2_binder
set_option maxHeartbeats 4000000 in
set_option maxRecDepth 100000 in
theorem c_X2_binder (l : Launch) (D : va_G) (cI cJ cB : ClassId) (a0 a_bench a_sum a_bytes a_waiting : Nat) (sz : Nat) (length : Int32) (waits : Int32) (at_ : Int32) (opened : Int32) (parens : Int32) (great : Int32) (bytes : Nat → Int32) (waiting : Nat → Int32) (x1 : Int32) (N : Nat) {z : Int32 × (Int32) × (Int32) × (Nat → Int32)} (h : f_X2_binder N length waits at_ bytes waiting x1 = some z) : Mg l yX2_binder cX2_binder 3 (some .boolean) rm_X2_binder D (ty0 cI cJ cB) [.ref a0, .int x1] sz (ws_X2_binder cI cJ cB a0 a_bench a_sum a_bytes a_waiting length waits at_ opened parens great bytes waiting) (some (.int z.1)) (ws_X2_binder cI cJ cB a0 a_bench a_sum a_bytes a_waiting length z.2.1 z.2.2.1 opened parens great bytes z.2.2.2) := by
  refine Mg.of (by decide) (Nat.le_of_ble_eq_true rfl) ?_
  intro p e s m below meth c CX hK hsz hP hD ls hl
  have CX : Cx p m c cX2_binder 3 s ([.ref a0, .int x1] : List Value).toArray (Cond.code yX2_binder cX2_binder 3 (some .boolean)) RX2 meth (some .boolean) := CX
  obtain ⟨F, hr, hlk, hNw⟩ := id CX
  have hx := F.1
  have hb := F.2.1
  have hown := F.2.2.2.1
  have hl : lv_has ls 3 [(0, .ref a0), (1, .int x1)] := hl
  have hS : va_S (va_A (ws_X2_binder cI cJ cB a0 a_bench a_sum a_bytes a_waiting length waits at_ opened parens great bytes waiting) sz) s.heap s.heap [] := va_S.rf
  have hA : ∀ q, s.heap.size ≤ q → va_A (ws_X2_binder cI cJ cB a0 a_bench a_sum a_bytes a_waiting length waits at_ opened parens great bytes waiting) sz q := fun q hq => Or.inr (hsz ▸ hq)
  unfold f_X2_binder at h
  refine lv_aload_n hx hb dX2_binder_0 rfl (lv_at hl 0 rfl) ?_
  obtain ⟨z1, hz1, h⟩ := o_b h
  refine k_v (wn := (ws_X2_binder cI cJ cB a0 a_bench a_sum a_bytes a_waiting length waits z1.2 opened parens great bytes waiting)) (As := []) (rest := []) F hNw hK hP hD hS hA (c_X2_nextLetter l D cI cJ cB a0 a_bench a_sum a_waiting a_bytes _ length waits at_ opened parens great bytes N hz1) wm_638 cv_X2_nextLetter [0, 1] [2] [1, 2, 0] (⟨rfl, rfl, rfl, by decide, rfl⟩ : Ix [0, 1] [2] [1, 2, 0] 3) rfl rfl rfl rfl rfl rfl ⟨rfl, rfl, by decide, by decide⟩ hl.1 rfl (Nat.le_of_ble_eq_true rfl) ⟨Nat.zero_le _, Nat.zero_le _⟩ dX2_binder_1 (fun H locs hP hD hS => ?_)
  obtain ⟨z4, hz4, h⟩ := o_b h
  refine k_s (wn := (ws_X2_binder cI cJ cB a0 a_bench a_sum a_bytes a_waiting length waits z1.2 opened parens great bytes waiting)) (As := [.int z1.1]) (rest := []) F hNw hK hP hD hS hA (c_X2_variableOf l D cI cJ cB _ z1.1 N hz4) wm_654 cs_X2_variableOf [] [0, 1, 2] [0, 1, 2] (⟨rfl, rfl, rfl, by decide, rfl⟩ : Ix [] [0, 1, 2] [0, 1, 2] 3) rfl rfl rfl ⟨rfl, rfl, by decide, by decide⟩ hl.1 rfl (Nat.le_of_ble_eq_true rfl) ⟨Nat.zero_le _, Nat.zero_le _⟩ dX2_binder_4 (fun H locs hP hD hS => ?_)
  refine lv_istore_n (lv' := [(2, .int z4), (0, .ref a0), (1, .int x1)]) hx hb dX2_binder_7 rfl hl (by decide) rfl (fun ls hl => ?_)
  refine lv_iload_n hx hb dX2_binder_8 rfl (lv_at hl 0 rfl) ?_
  refine lv_iconst (v := (-1)) hx hb dX2_binder_9 (by decide) ?_
  refine lv_icmp_ne (tgt := 15) hx hb dX2_binder_10 (by decide) (fun c10 => ?_) (fun c10 => ?_)
  · have h := o_f c10 h
    refine lv_aload_n hx hb dX2_binder_15 rfl (lv_at hl 1 rfl) ?_
    refine lv_dup hx hb dX2_binder_16 rfl ?_
    refine r_get F hK hP 0 6 rfl inW_X2 wm_173 rfl (by decide) rfl dX2_binder_17 ?_
    refine lv_iconst (v := 1) hx hb dX2_binder_20 (by decide) ?_
    refine lv_iadd hx hb dX2_binder_21 ?_
    refine r_put (wn := (ws_X2_binder cI cJ cB a0 a_bench a_sum a_bytes a_waiting length waits (z1.2 + 1) opened parens great bytes waiting)) F hK hP hD hS 0 6 rfl inW_X2 wm_173 tyX2_ok nmX2 rfl rfl (by decide) rfl rfl (Nat.le_of_ble_eq_true rfl) rfl dX2_binder_22 (fun H locs hP hD hS => ?_)
    refine lv_aload_n hx hb dX2_binder_25 rfl (lv_at hl 1 rfl) ?_
    obtain ⟨z26, hz26, h⟩ := o_b h
    refine k_v (wn := (ws_X2_binder cI cJ cB a0 a_bench a_sum a_bytes a_waiting length waits z26.2 opened parens great bytes waiting)) (As := []) (rest := []) F hNw hK hP hD hS hA (c_X2_nextLetter l D cI cJ cB a0 a_bench a_sum a_waiting a_bytes _ length waits (z1.2 + 1) opened parens great bytes N hz26) wm_638 cv_X2_nextLetter [0, 1] [2] [1, 2, 0] (⟨rfl, rfl, rfl, by decide, rfl⟩ : Ix [0, 1] [2] [1, 2, 0] 3) rfl rfl rfl rfl rfl rfl ⟨rfl, rfl, by decide, by decide⟩ hl.1 rfl (Nat.le_of_ble_eq_true rfl) ⟨Nat.zero_le _, Nat.zero_le _⟩ dX2_binder_26 (fun H locs hP hD hS => ?_)
    refine lv_bipush (v := 46) hx hb dX2_binder_29 (by decide) ?_
    refine lv_icmp_eq (tgt := 36) hx hb dX2_binder_31 (by decide) (fun c31 => ?_) (fun c31 => ?_)
    · have h := o_t c31 h
      refine lv_aload_n hx hb dX2_binder_36 rfl (lv_at hl 1 rfl) ?_
      refine lv_dup hx hb dX2_binder_37 rfl ?_
      refine r_get F hK hP 0 6 rfl inW_X2 wm_173 rfl (by decide) rfl dX2_binder_38 ?_
      refine lv_iconst (v := 1) hx hb dX2_binder_41 (by decide) ?_
      refine lv_iadd hx hb dX2_binder_42 ?_
      refine r_put (wn := (ws_X2_binder cI cJ cB a0 a_bench a_sum a_bytes a_waiting length waits (z26.2 + 1) opened parens great bytes waiting)) F hK hP hD hS 0 6 rfl inW_X2 wm_173 tyX2_ok nmX2 rfl rfl (by decide) rfl rfl (Nat.le_of_ble_eq_true rfl) rfl dX2_binder_43 (fun H locs hP hD hS => ?_)
      refine lv_aload_n hx hb dX2_binder_46 rfl (lv_at hl 1 rfl) ?_
      refine lv_iload_n hx hb dX2_binder_47 rfl (lv_at hl 2 rfl) ?_
      refine lv_iload_n hx hb dX2_binder_48 rfl (lv_at hl 0 rfl) ?_
      refine lv_iconst (v := 4) hx hb dX2_binder_49 (by decide) ?_
      refine lv_ishl hx hb dX2_binder_50 ?_
      refine lv_ior hx hb dX2_binder_51 ?_
      obtain ⟨z52, hz52, h⟩ := o_b h
      refine k_v (wn := (ws_X2_binder cI cJ cB a0 a_bench a_sum a_bytes a_waiting length z52.1 (z26.2 + 1) opened parens great bytes z52.2)) (As := [.int (x1 ||| (z4 <<< (4 &&& 31)))]) (rest := []) F hNw hK hP hD hS hA (c_X2_await l D cI cJ cB a0 a_bytes a_bench a_sum a_waiting _ length waits (z26.2 + 1) opened parens great waiting (x1 ||| (z4 <<< (4 &&& 31))) N hz52) wm_646 cv_X2_await [0, 2] [1] [1, 0, 2] (⟨rfl, rfl, rfl, by decide, rfl⟩ : Ix [0, 2] [1] [1, 0, 2] 3) rfl rfl rfl rfl rfl rfl ⟨rfl, rfl, by decide, by decide⟩ hl.1 rfl (Nat.le_of_ble_eq_true rfl) ⟨Nat.zero_le _, Nat.zero_le _⟩ dX2_binder_52 (fun H locs hP hD hS => ?_)
      refine lv_iconst (v := 1) hx hb dX2_binder_55 (by decide) ?_
      obtain rfl := Option.some.inj h
      exact r_ret (v := 1) F hr hlk rfl dX2_binder_56 hsz hP hD hS
    · have h := o_f c31 h
      refine lv_iconst (v := 0) hx hb dX2_binder_34 (by decide) ?_
      obtain rfl := Option.some.inj h
      exact r_ret (v := 0) F hr hlk rfl dX2_binder_35 hsz hP hD hS
  · have h := o_t c10 h
    refine lv_iconst (v := 0) hx hb dX2_binder_13 (by decide) ?_
    obtain rfl := Option.some.inj h
    exact r_ret (v := 0) F hr hlk rfl dX2_binder_14 hsz hP hD hS
section G_X2_endings
abbrev ws_X2_endings (cI cJ cB : ClassId) (a0 a_sum a_bytes a_bench a_bench_tree a_bench_tree_cells a_bench_starts a_bench_looses a_waiting : Nat) (length : Int32) (waits : Int32) (at_ : Int32) (opened : Int32) (parens : Int32) (great : Int32) (bytes : Nat → Int32) (bench_parts : Int32) (bench_tree_rows : Int32) (bench_tree_cells : Nat → Int32) (bench_tree_cells_n : Nat) (bench_starts : Nat → Int32) (bench_looses : Nat → Int32) (waiting : Nat → Int32) : va_W := [(a0, .inr (4, [.ref a_bytes, .ref a_bench, .ref a_sum, .ref a_waiting, .int length, .int waits, .int at_, .int opened, .int parens, .int great])), (a_bytes, .inl (cB, 240, .inl bytes)), (a_bench, .inr (2, [.ref a_bench_tree, .ref a_bench_starts, .ref a_bench_looses, .int bench_parts])), (a_bench_tree, .inr (7, [.ref a_bench_tree_cells, .int bench_tree_rows])), (a_bench_tree_cells, .inl (cI, bench_tree_cells_n, .inl bench_tree_cells)), (a_bench_starts, .inl (cI, 402, .inl bench_starts)), (a_bench_looses, .inl (cI, 402, .inl bench_looses)), (a_waiting, .inl (cI, 240, .inl waiting))]
abbrev rm_X2_endings : Room := { frames := 6, cells := 0, slots := 0, locals := 141 }
def f_X2_endings_2 (N : Nat) : Nat → Int32 → Int32 → Int32 → Int32 → Int32 → (Nat → Int32) → Int32 → Int32 → (Nat → Int32) → Nat → (Nat → Int32) → (Nat → Int32) → (Nat → Int32) → Int32 → Option (Int32 × (Int32) × (Int32) × (Int32) × (Int32) × (Int32) × (Int32) × (Nat → Int32) × (Nat → Int32))
  | 0 => fun _ _ _ _ _ _ _ _ _ _ _ _ _ _ => none
  | n + 1 => fun length waits at_ opened parens bytes bench_parts bench_tree_rows bench_tree_cells bench_tree_cells_n bench_starts bench_looses waiting y1 => ifb (240 < y1) (some (0, waits, at_, opened, parens, bench_parts, bench_tree_rows, bench_tree_cells, bench_looses)) ((f_X2_carryOut N waits opened bench_parts bench_tree_rows bench_tree_cells bench_tree_cells_n bench_starts bench_looses waiting 4).bind (fun z11 => (f_X2_nextLetter N length at_ bytes).bind (fun z15 => ifb (z15.1 = 41) (ifb (parens = 0) (some (0, z11.1, z15.2, z11.2.1, parens, z11.2.2.1, z11.2.2.2.1, z11.2.2.2.2.1, z11.2.2.2.2.2)) ((f_X2_carryOut N z11.1 z11.2.1 z11.2.2.1 z11.2.2.2.1 z11.2.2.2.2.1 bench_tree_cells_n bench_starts z11.2.2.2.2.2 waiting 1).bind (fun z36 => f_X2_endings_2 N n length (jmax (z36.1 - 1) 0) (z15.2 + 1) (z36.2.1 - 1) (parens - 1) bytes z36.2.2.1 z36.2.2.2.1 z36.2.2.2.2.1 bench_tree_cells_n bench_starts z36.2.2.2.2.2 waiting (y1 + 1)))) (some (1, z11.1, z15.2, z11.2.1, parens, z11.2.2.1, z11.2.2.2.1, z11.2.2.2.2.1, z11.2.2.2.2.2)))))
def f_X2_endings (N : Nat) (length : Int32) (waits : Int32) (at_ : Int32) (opened : Int32) (parens : Int32) (bytes : Nat → Int32) (bench_parts : Int32) (bench_tree_rows : Int32) (bench_tree_cells : Nat → Int32) (bench_tree_cells_n : Nat) (bench_starts : Nat → Int32) (bench_looses : Nat → Int32) (waiting : Nat → Int32) : Option (Int32 × (Int32) × (Int32) × (Int32) × (Int32) × (Int32) × (Int32) × (Nat → Int32) × (Nat → Int32)) := f_X2_endings_2 N N length waits at_ opened parens bytes bench_parts bench_tree_rows bench_tree_cells bench_tree_cells_n bench_starts bench_looses waiting 0
variable {p : Program} {l : Launch} {e : Env} {s : State} {m : MethodId} {below : List Frame} {meth : Method} {c : Code} {args : Array Value} {x0 : Cond} {D : va_G} {cI cJ cB : ClassId} {sz N : Nat} {ws0 : va_W} {a0 a_sum a_bytes a_bench a_bench_tree a_bench_tree_cells a_bench_starts a_bench_looses a_waiting : Nat} {length : Int32} {great : Int32} {bytes : Nat → Int32} {bench_tree_cells_n : Nat} {bench_starts : Nat → Int32} {waiting : Nat → Int32} {z : Int32 × (Int32) × (Int32) × (Int32) × (Int32) × (Int32) × (Int32) × (Nat → Int32) × (Nat → Int32)}
set_option maxHeartbeats 4000000 in
set_option maxRecDepth 100000 in
theorem w_X2_endings_2 (CX : Cx p m c cX2_endings 2 s args x0 RX2 meth (some .boolean)) (hK : va_K D vwCl (ty0 cI cJ cB) s) (hsz : s.heap.size = sz) : ∀ (n : Nat), ∀ (waits : Int32) (at_ : Int32) (opened : Int32) (parens : Int32) (bench_parts : Int32) (bench_tree_rows : Int32) (bench_tree_cells : Nat → Int32) (bench_looses : Nat → Int32) (y1 : Int32) (H : Heap) (locs : List Loc) (ls : Array Slot), f_X2_endings_2 N n length waits at_ opened parens bytes bench_parts bench_tree_rows bench_tree_cells bench_tree_cells_n bench_starts bench_looses waiting y1 = some z → va_P D vwCl (ws_X2_endings cI cJ cB a0 a_sum a_bytes a_bench a_bench_tree a_bench_tree_cells a_bench_starts a_bench_looses a_waiting length waits at_ opened parens great bytes bench_parts bench_tree_rows bench_tree_cells bench_tree_cells_n bench_starts bench_looses waiting) H → va_D (va_A ws0 sz) (ws_X2_endings cI cJ cB a0 a_sum a_bytes a_bench a_bench_tree a_bench_tree_cells a_bench_starts a_bench_looses a_waiting length waits at_ opened parens great bytes bench_parts bench_tree_rows bench_tree_cells bench_tree_cells_n bench_starts bench_looses waiting) → va_S (va_A ws0 sz) s.heap H locs → lv_has ls 2 [(0, .ref a0), (1, .int y1)] → W p l e rm_X2_endings s m args below meth c H locs 0 0 (MQ below (gQ D sz ws0 (ws_X2_endings cI cJ cB a0 a_sum a_bytes a_bench a_bench_tree a_bench_tree_cells a_bench_starts a_bench_looses a_waiting length z.2.1 z.2.2.1 z.2.2.2.1 z.2.2.2.2.1 great bytes z.2.2.2.2.2.1 z.2.2.2.2.2.2.1 z.2.2.2.2.2.2.2.1 bench_tree_cells_n bench_starts z.2.2.2.2.2.2.2.2 waiting) (some (.int z.1))) args s 0 0 (va_A ws0 sz)) (F0 m 2 ls []) := by
  obtain ⟨F, hr, hlk, hNw⟩ := id CX
  have hx := F.1
  have hb := F.2.1
  have hown := F.2.2.2.1
  have hA : ∀ q, s.heap.size ≤ q → va_A ws0 sz q := fun q hq => Or.inr (hsz ▸ hq)
  intro n
  induction n with
  | zero =>
    intro waits at_ opened parens bench_parts bench_tree_rows bench_tree_cells bench_looses y1 H locs ls h
    cases h
  | succ n ih =>
    intro waits at_ opened parens bench_parts bench_tree_rows bench_tree_cells bench_looses y1 H locs ls h hP hD hS hl
    unfold f_X2_endings_2 at h
    refine lv_iload_n hx hb dX2_endings_2 rfl (lv_at hl 1 rfl) ?_
    refine lv_sipush (v := 240) hx hb dX2_endings_3 (by decide) ?_
    refine lv_icmp_gt (tgt := 89) hx hb dX2_endings_6 (by decide) (fun c6 => ?_) (fun c6 => ?_)
    · have h := o_t c6 h
      refine lv_iconst (v := 0) hx hb dX2_endings_89 (by decide) ?_
      obtain rfl := Option.some.inj h
      exact r_ret (v := 0) F hr hlk rfl dX2_endings_90 hsz hP hD hS
    · have h := o_f c6 h
      refine lv_aload_n hx hb dX2_endings_9 rfl (lv_at hl 0 rfl) ?_
      refine lv_iconst (v := 4) hx hb dX2_endings_10 (by decide) ?_
      obtain ⟨z11, hz11, h⟩ := o_b h
      refine k_v (wn := (ws_X2_endings cI cJ cB a0 a_sum a_bytes a_bench a_bench_tree a_bench_tree_cells a_bench_starts a_bench_looses a_waiting length z11.1 at_ z11.2.1 parens great bytes z11.2.2.1 z11.2.2.2.1 z11.2.2.2.2.1 bench_tree_cells_n bench_starts z11.2.2.2.2.2 waiting)) (As := [.int 4]) (rest := []) F hNw hK hP hD hS hA (c_X2_carryOut l D cI cJ cB a0 a_bytes a_sum a_bench a_bench_tree a_bench_tree_cells a_bench_starts a_bench_looses a_waiting _ length waits at_ opened parens great bench_parts bench_tree_rows bench_tree_cells bench_tree_cells_n bench_starts bench_looses waiting 4 N hz11) wm_745 cv_X2_carryOut [0, 2, 3, 4, 5, 6, 7] [1] [1, 0, 2, 3, 4, 5, 6, 7] (⟨rfl, rfl, rfl, by decide, rfl⟩ : Ix [0, 2, 3, 4, 5, 6, 7] [1] [1, 0, 2, 3, 4, 5, 6, 7] 8) rfl rfl rfl rfl rfl rfl ⟨rfl, rfl, by decide, by decide⟩ hl.1 rfl (Nat.le_of_ble_eq_true rfl) ⟨Nat.zero_le _, Nat.zero_le _⟩ dX2_endings_11 (fun H locs hP hD hS => ?_)
      refine lv_aload_n hx hb dX2_endings_14 rfl (lv_at hl 0 rfl) ?_
      obtain ⟨z15, hz15, h⟩ := o_b h
      refine k_v (wn := (ws_X2_endings cI cJ cB a0 a_sum a_bytes a_bench a_bench_tree a_bench_tree_cells a_bench_starts a_bench_looses a_waiting length z11.1 z15.2 z11.2.1 parens great bytes z11.2.2.1 z11.2.2.2.1 z11.2.2.2.2.1 bench_tree_cells_n bench_starts z11.2.2.2.2.2 waiting)) (As := []) (rest := []) F hNw hK hP hD hS hA (c_X2_nextLetter l D cI cJ cB a0 a_bench a_sum a_waiting a_bytes _ length z11.1 at_ z11.2.1 parens great bytes N hz15) wm_638 cv_X2_nextLetter [0, 1] [2, 3, 4, 5, 6, 7] [6, 7, 0, 1, 2, 3, 4, 5] (⟨rfl, rfl, rfl, by decide, rfl⟩ : Ix [0, 1] [2, 3, 4, 5, 6, 7] [6, 7, 0, 1, 2, 3, 4, 5] 8) rfl rfl rfl rfl rfl rfl ⟨rfl, rfl, by decide, by decide⟩ hl.1 rfl (Nat.le_of_ble_eq_true rfl) ⟨Nat.zero_le _, Nat.zero_le _⟩ dX2_endings_15 (fun H locs hP hD hS => ?_)
      refine lv_bipush (v := 41) hx hb dX2_endings_18 (by decide) ?_
      refine lv_icmp_eq (tgt := 25) hx hb dX2_endings_20 (by decide) (fun c20 => ?_) (fun c20 => ?_)
      · have h := o_t c20 h
        refine lv_aload_n hx hb dX2_endings_25 rfl (lv_at hl 0 rfl) ?_
        refine r_get F hK hP 0 8 rfl inW_X2 wm_175 rfl (by decide) rfl dX2_endings_26 ?_
        refine lv_if_ne (tgt := 34) hx hb dX2_endings_29 (by decide) (fun c29 => ?_) (fun c29 => ?_)
        · have h := o_f c29 h
          refine lv_aload_n hx hb dX2_endings_34 rfl (lv_at hl 0 rfl) ?_
          refine lv_iconst (v := 1) hx hb dX2_endings_35 (by decide) ?_
          obtain ⟨z36, hz36, h⟩ := o_b h
          refine k_v (wn := (ws_X2_endings cI cJ cB a0 a_sum a_bytes a_bench a_bench_tree a_bench_tree_cells a_bench_starts a_bench_looses a_waiting length z36.1 z15.2 z36.2.1 parens great bytes z36.2.2.1 z36.2.2.2.1 z36.2.2.2.2.1 bench_tree_cells_n bench_starts z36.2.2.2.2.2 waiting)) (As := [.int 1]) (rest := []) F hNw hK hP hD hS hA (c_X2_carryOut l D cI cJ cB a0 a_bytes a_sum a_bench a_bench_tree a_bench_tree_cells a_bench_starts a_bench_looses a_waiting _ length z11.1 z15.2 z11.2.1 parens great z11.2.2.1 z11.2.2.2.1 z11.2.2.2.2.1 bench_tree_cells_n bench_starts z11.2.2.2.2.2 waiting 1 N hz36) wm_745 cv_X2_carryOut [0, 2, 3, 4, 5, 6, 7] [1] [1, 0, 2, 3, 4, 5, 6, 7] (⟨rfl, rfl, rfl, by decide, rfl⟩ : Ix [0, 2, 3, 4, 5, 6, 7] [1] [1, 0, 2, 3, 4, 5, 6, 7] 8) rfl rfl rfl rfl rfl rfl ⟨rfl, rfl, by decide, by decide⟩ hl.1 rfl (Nat.le_of_ble_eq_true rfl) ⟨Nat.zero_le _, Nat.zero_le _⟩ dX2_endings_36 (fun H locs hP hD hS => ?_)
          refine lv_aload_n hx hb dX2_endings_39 rfl (lv_at hl 0 rfl) ?_
          refine lv_dup hx hb dX2_endings_40 rfl ?_
          refine r_get F hK hP 0 8 rfl inW_X2 wm_175 rfl (by decide) rfl dX2_endings_41 ?_
          refine lv_iconst (v := 1) hx hb dX2_endings_44 (by decide) ?_
          refine lv_isub hx hb dX2_endings_45 ?_
          refine r_put (wn := (ws_X2_endings cI cJ cB a0 a_sum a_bytes a_bench a_bench_tree a_bench_tree_cells a_bench_starts a_bench_looses a_waiting length z36.1 z15.2 z36.2.1 (parens - 1) great bytes z36.2.2.1 z36.2.2.2.1 z36.2.2.2.2.1 bench_tree_cells_n bench_starts z36.2.2.2.2.2 waiting)) F hK hP hD hS 0 8 rfl inW_X2 wm_175 tyX2_ok nmX2 rfl rfl (by decide) rfl rfl (Nat.le_of_ble_eq_true rfl) rfl dX2_endings_46 (fun H locs hP hD hS => ?_)
          refine lv_aload_n hx hb dX2_endings_49 rfl (lv_at hl 0 rfl) ?_
          refine lv_dup hx hb dX2_endings_50 rfl ?_
          refine r_get F hK hP 0 7 rfl inW_X2 wm_174 rfl (by decide) rfl dX2_endings_51 ?_
          refine lv_iconst (v := 1) hx hb dX2_endings_54 (by decide) ?_
          refine lv_isub hx hb dX2_endings_55 ?_
          refine r_put (wn := (ws_X2_endings cI cJ cB a0 a_sum a_bytes a_bench a_bench_tree a_bench_tree_cells a_bench_starts a_bench_looses a_waiting length z36.1 z15.2 (z36.2.1 - 1) (parens - 1) great bytes z36.2.2.1 z36.2.2.2.1 z36.2.2.2.2.1 bench_tree_cells_n bench_starts z36.2.2.2.2.2 waiting)) F hK hP hD hS 0 7 rfl inW_X2 wm_174 tyX2_ok nmX2 rfl rfl (by decide) rfl rfl (Nat.le_of_ble_eq_true rfl) rfl dX2_endings_56 (fun H locs hP hD hS => ?_)
          refine lv_aload_n hx hb dX2_endings_59 rfl (lv_at hl 0 rfl) ?_
          refine lv_aload_n hx hb dX2_endings_60 rfl (lv_at hl 0 rfl) ?_
          refine r_get F hK hP 0 5 rfl inW_X2 wm_172 rfl (by decide) rfl dX2_endings_61 ?_
          refine lv_iconst (v := 1) hx hb dX2_endings_64 (by decide) ?_
          refine lv_isub hx hb dX2_endings_65 ?_
          refine lv_iconst (v := 0) hx hb dX2_endings_66 (by decide) ?_
          refine va_mmax hx hb (F.2.2.1.trans hl.1.symm) hown (F.2.2.2.2 _ (q_in wm_794)) (F.2.2.2.2 _ (q_in wm_123)) (F.2.2.2.2 _ (q_in wm_75)) (F.2.2.2.2 _ (q_in wm_124)) (Nat.le_of_ble_eq_true rfl) (Nat.le_of_ble_eq_true rfl) (Nat.zero_le _) (Nat.zero_le _) dX2_endings_67 ?_
          refine r_put (wn := (ws_X2_endings cI cJ cB a0 a_sum a_bytes a_bench a_bench_tree a_bench_tree_cells a_bench_starts a_bench_looses a_waiting length (jmax (z36.1 - 1) 0) z15.2 (z36.2.1 - 1) (parens - 1) great bytes z36.2.2.1 z36.2.2.2.1 z36.2.2.2.2.1 bench_tree_cells_n bench_starts z36.2.2.2.2.2 waiting)) F hK hP hD hS 0 5 rfl inW_X2 wm_172 tyX2_ok nmX2 rfl rfl (by decide) rfl rfl (Nat.le_of_ble_eq_true rfl) rfl dX2_endings_70 (fun H locs hP hD hS => ?_)
          refine lv_aload_n hx hb dX2_endings_73 rfl (lv_at hl 0 rfl) ?_
          refine lv_dup hx hb dX2_endings_74 rfl ?_
          refine r_get F hK hP 0 6 rfl inW_X2 wm_173 rfl (by decide) rfl dX2_endings_75 ?_
          refine lv_iconst (v := 1) hx hb dX2_endings_78 (by decide) ?_
          refine lv_iadd hx hb dX2_endings_79 ?_
          refine r_put (wn := (ws_X2_endings cI cJ cB a0 a_sum a_bytes a_bench a_bench_tree a_bench_tree_cells a_bench_starts a_bench_looses a_waiting length (jmax (z36.1 - 1) 0) (z15.2 + 1) (z36.2.1 - 1) (parens - 1) great bytes z36.2.2.1 z36.2.2.2.1 z36.2.2.2.2.1 bench_tree_cells_n bench_starts z36.2.2.2.2.2 waiting)) F hK hP hD hS 0 6 rfl inW_X2 wm_173 tyX2_ok nmX2 rfl rfl (by decide) rfl rfl (Nat.le_of_ble_eq_true rfl) rfl dX2_endings_80 (fun H locs hP hD hS => ?_)
          refine lv_iinc (v := y1 + 1) (lv' := [(1, .int (y1 + 1)), (0, .ref a0)]) hx hb dX2_endings_83 hl (k := 1) rfl rfl (by decide) rfl (fun ls hl => ?_)
          refine lv_goto (tgt := 2) hx hb dX2_endings_86 (by decide) ?_
          exact ih (jmax (z36.1 - 1) 0) (z15.2 + 1) (z36.2.1 - 1) (parens - 1) z36.2.2.1 z36.2.2.2.1 z36.2.2.2.2.1 z36.2.2.2.2.2 (y1 + 1) _ _ _ h hP hD hS (lv_sub hl [1, 0] rfl)
        · have h := o_t c29 h
          refine lv_iconst (v := 0) hx hb dX2_endings_32 (by decide) ?_
          obtain rfl := Option.some.inj h
          exact r_ret (v := 0) F hr hlk rfl dX2_endings_33 hsz hP hD hS
      · have h := o_f c20 h
        refine lv_iconst (v := 1) hx hb dX2_endings_23 (by decide) ?_
        obtain rfl := Option.some.inj h
        exact r_ret (v := 1) F hr hlk rfl dX2_endings_24 hsz hP hD hS
end G_X2_endings
set_option maxHeartbeats 4000000 in
set_option maxRecDepth 100000 in
theorem c_X2_endings (l : Launch) (D : va_G) (cI cJ cB : ClassId) (a0 a_sum a_bytes a_bench a_bench_tree a_bench_tree_cells a_bench_starts a_bench_looses a_waiting : Nat) (sz : Nat) (length : Int32) (waits : Int32) (at_ : Int32) (opened : Int32) (parens : Int32) (great : Int32) (bytes : Nat → Int32) (bench_parts : Int32) (bench_tree_rows : Int32) (bench_tree_cells : Nat → Int32) (bench_tree_cells_n : Nat) (bench_starts : Nat → Int32) (bench_looses : Nat → Int32) (waiting : Nat → Int32) (N : Nat) {z : Int32 × (Int32) × (Int32) × (Int32) × (Int32) × (Int32) × (Int32) × (Nat → Int32) × (Nat → Int32)} (h : f_X2_endings N length waits at_ opened parens bytes bench_parts bench_tree_rows bench_tree_cells bench_tree_cells_n bench_starts bench_looses waiting = some z) : Mg l yX2_endings cX2_endings 2 (some .boolean) rm_X2_endings D (ty0 cI cJ cB) [.ref a0] sz (ws_X2_endings cI cJ cB a0 a_sum a_bytes a_bench a_bench_tree a_bench_tree_cells a_bench_starts a_bench_looses a_waiting length waits at_ opened parens great bytes bench_parts bench_tree_rows bench_tree_cells bench_tree_cells_n bench_starts bench_looses waiting) (some (.int z.1)) (ws_X2_endings cI cJ cB a0 a_sum a_bytes a_bench a_bench_tree a_bench_tree_cells a_bench_starts a_bench_looses a_waiting length z.2.1 z.2.2.1 z.2.2.2.1 z.2.2.2.2.1 great bytes z.2.2.2.2.2.1 z.2.2.2.2.2.2.1 z.2.2.2.2.2.2.2.1 bench_tree_cells_n bench_starts z.2.2.2.2.2.2.2.2 waiting) := by
  refine Mg.of (by decide) (Nat.le_of_ble_eq_true rfl) ?_
  intro p e s m below meth c CX hK hsz hP hD ls hl
  have CX : Cx p m c cX2_endings 2 s ([.ref a0] : List Value).toArray (Cond.code yX2_endings cX2_endings 2 (some .boolean)) RX2 meth (some .boolean) := CX
  obtain ⟨F, hr, hlk, hNw⟩ := id CX
  have hx := F.1
  have hb := F.2.1
  have hown := F.2.2.2.1
  have hl : lv_has ls 2 [(0, .ref a0)] := hl
  have hS : va_S (va_A (ws_X2_endings cI cJ cB a0 a_sum a_bytes a_bench a_bench_tree a_bench_tree_cells a_bench_starts a_bench_looses a_waiting length waits at_ opened parens great bytes bench_parts bench_tree_rows bench_tree_cells bench_tree_cells_n bench_starts bench_looses waiting) sz) s.heap s.heap [] := va_S.rf
  have hA : ∀ q, s.heap.size ≤ q → va_A (ws_X2_endings cI cJ cB a0 a_sum a_bytes a_bench a_bench_tree a_bench_tree_cells a_bench_starts a_bench_looses a_waiting length waits at_ opened parens great bytes bench_parts bench_tree_rows bench_tree_cells bench_tree_cells_n bench_starts bench_looses waiting) sz q := fun q hq => Or.inr (hsz ▸ hq)
  unfold f_X2_endings at h
  refine lv_iconst (v := 0) hx hb dX2_endings_0 (by decide) ?_
  refine lv_istore_n (lv' := [(1, .int 0), (0, .ref a0)]) hx hb dX2_endings_1 rfl hl (by decide) rfl (fun ls hl => ?_)
  exact w_X2_endings_2 CX hK hsz N waits at_ opened parens bench_parts bench_tree_rows bench_tree_cells bench_looses 0 _ _ _ h hP hD hS (lv_sub hl [1, 0] rfl)
section G_X2_connective
abbrev ws_X2_connective (cI cJ cB : ClassId) (a0 a_sum a_bytes a_bench a_bench_tree a_bench_tree_cells a_bench_starts a_bench_looses a_waiting : Nat) (length : Int32) (waits : Int32) (at_ : Int32) (opened : Int32) (parens : Int32) (great : Int32) (bytes : Nat → Int32) (bench_parts : Int32) (bench_tree_rows : Int32) (bench_tree_cells : Nat → Int32) (bench_tree_cells_n : Nat) (bench_starts : Nat → Int32) (bench_looses : Nat → Int32) (waiting : Nat → Int32) : va_W := [(a0, .inr (4, [.ref a_bytes, .ref a_bench, .ref a_sum, .ref a_waiting, .int length, .int waits, .int at_, .int opened, .int parens, .int great])), (a_bytes, .inl (cB, 240, .inl bytes)), (a_bench, .inr (2, [.ref a_bench_tree, .ref a_bench_starts, .ref a_bench_looses, .int bench_parts])), (a_bench_tree, .inr (7, [.ref a_bench_tree_cells, .int bench_tree_rows])), (a_bench_tree_cells, .inl (cI, bench_tree_cells_n, .inl bench_tree_cells)), (a_bench_starts, .inl (cI, 402, .inl bench_starts)), (a_bench_looses, .inl (cI, 402, .inl bench_looses)), (a_waiting, .inl (cI, 240, .inl waiting))]
abbrev rm_X2_connective : Room := { frames := 6, cells := 0, slots := 0, locals := 141 }
def f_X2_connective_92 (N : Nat) (length : Int32) (waits : Int32) (at_ : Int32) (opened : Int32) (bytes : Nat → Int32) (bench_parts : Int32) (bench_tree_rows : Int32) (bench_tree_cells : Nat → Int32) (bench_tree_cells_n : Nat) (bench_starts : Nat → Int32) (bench_looses : Nat → Int32) (waiting : Nat → Int32) : Option (Int32 × (Int32) × (Int32) × (Int32) × (Int32) × (Int32) × (Nat → Int32) × (Nat → Int32) × (Nat → Int32)) := some (1, waits, at_ + 1, opened, bench_parts, bench_tree_rows, bench_tree_cells, bench_looses, waiting)
def f_X2_connective (N : Nat) (length : Int32) (waits : Int32) (at_ : Int32) (opened : Int32) (bytes : Nat → Int32) (bench_parts : Int32) (bench_tree_rows : Int32) (bench_tree_cells : Nat → Int32) (bench_tree_cells_n : Nat) (bench_starts : Nat → Int32) (bench_looses : Nat → Int32) (waiting : Nat → Int32) : Option (Int32 × (Int32) × (Int32) × (Int32) × (Int32) × (Int32) × (Nat → Int32) × (Nat → Int32) × (Nat → Int32)) := (f_X2_nextLetter N length at_ bytes).bind (fun z1 => ifb (z1.1 = 38) ((f_X2_carryOut N waits opened bench_parts bench_tree_rows bench_tree_cells bench_tree_cells_n bench_starts bench_looses waiting 3).bind (fun z13 => (f_X2_await N z13.1 waiting 6).bind (fun z19 => f_X2_connective_92 N length z19.1 z1.2 z13.2.1 bytes z13.2.2.1 z13.2.2.2.1 z13.2.2.2.2.1 bench_tree_cells_n bench_starts z13.2.2.2.2.2 z19.2))) (ifb (z1.1 = 124) ((f_X2_carryOut N waits opened bench_parts bench_tree_rows bench_tree_cells bench_tree_cells_n bench_starts bench_looses waiting 2).bind (fun z33 => (f_X2_await N z33.1 waiting 7).bind (fun z39 => f_X2_connective_92 N length z39.1 z1.2 z33.2.1 bytes z33.2.2.1 z33.2.2.2.1 z33.2.2.2.2.1 bench_tree_cells_n bench_starts z33.2.2.2.2.2 z39.2))) (ifb (z1.1 = 45) ((f_X2_letterAt N length bytes (z1.2 + 1)).bind (fun z66 => ifb (z66 = 62) ((f_X2_carryOut N waits opened bench_parts bench_tree_rows bench_tree_cells bench_tree_cells_n bench_starts bench_looses waiting 2).bind (fun z78 => (f_X2_await N z78.1 waiting 10).bind (fun z84 => f_X2_connective_92 N length z84.1 (z1.2 + 1) z78.2.1 bytes z78.2.2.1 z78.2.2.2.1 z78.2.2.2.2.1 bench_tree_cells_n bench_starts z78.2.2.2.2.2 z84.2))) (some (0, waits, z1.2 + 1, opened, bench_parts, bench_tree_rows, bench_tree_cells, bench_looses, waiting)))) (some (0, waits, z1.2, opened, bench_parts, bench_tree_rows, bench_tree_cells, bench_looses, waiting)))))
variable {p : Program} {l : Launch} {e : Env} {s : State} {m : MethodId} {below : List Frame} {meth : Method} {c : Code} {args : Array Value} {x0 : Cond} {D : va_G} {cI cJ cB : ClassId} {sz N : Nat} {ws0 : va_W} {a0 a_sum a_bytes a_bench a_bench_tree a_bench_tree_cells a_bench_starts a_bench_looses a_waiting : Nat} {length : Int32} {parens : Int32} {great : Int32} {bytes : Nat → Int32} {bench_tree_cells_n : Nat} {bench_starts : Nat → Int32} {z : Int32 × (Int32) × (Int32) × (Int32) × (Int32) × (Int32) × (Nat → Int32) × (Nat → Int32) × (Nat → Int32)}
set_option maxHeartbeats 4000000 in
set_option maxRecDepth 100000 in
theorem w_X2_connective_92 (CX : Cx p m c cX2_connective 2 s args x0 RX2 meth (some .boolean)) (hK : va_K D vwCl (ty0 cI cJ cB) s) (hsz : s.heap.size = sz) : ∀ (waits : Int32) (at_ : Int32) (opened : Int32) (bench_parts : Int32) (bench_tree_rows : Int32) (bench_tree_cells : Nat → Int32) (bench_looses : Nat → Int32) (waiting : Nat → Int32) (H : Heap) (locs : List Loc) (ls : Array Slot), f_X2_connective_92 N length waits at_ opened bytes bench_parts bench_tree_rows bench_tree_cells bench_tree_cells_n bench_starts bench_looses waiting = some z → va_P D vwCl (ws_X2_connective cI cJ cB a0 a_sum a_bytes a_bench a_bench_tree a_bench_tree_cells a_bench_starts a_bench_looses a_waiting length waits at_ opened parens great bytes bench_parts bench_tree_rows bench_tree_cells bench_tree_cells_n bench_starts bench_looses waiting) H → va_D (va_A ws0 sz) (ws_X2_connective cI cJ cB a0 a_sum a_bytes a_bench a_bench_tree a_bench_tree_cells a_bench_starts a_bench_looses a_waiting length waits at_ opened parens great bytes bench_parts bench_tree_rows bench_tree_cells bench_tree_cells_n bench_starts bench_looses waiting) → va_S (va_A ws0 sz) s.heap H locs → lv_has ls 2 [(0, .ref a0)] → W p l e rm_X2_connective s m args below meth c H locs 0 0 (MQ below (gQ D sz ws0 (ws_X2_connective cI cJ cB a0 a_sum a_bytes a_bench a_bench_tree a_bench_tree_cells a_bench_starts a_bench_looses a_waiting length z.2.1 z.2.2.1 z.2.2.2.1 parens great bytes z.2.2.2.2.1 z.2.2.2.2.2.1 z.2.2.2.2.2.2.1 bench_tree_cells_n bench_starts z.2.2.2.2.2.2.2.1 z.2.2.2.2.2.2.2.2) (some (.int z.1))) args s 0 0 (va_A ws0 sz)) (F0 m 92 ls []) := by
  obtain ⟨F, hr, hlk, hNw⟩ := id CX
  have hx := F.1
  have hb := F.2.1
  have hown := F.2.2.2.1
  have hA : ∀ q, s.heap.size ≤ q → va_A ws0 sz q := fun q hq => Or.inr (hsz ▸ hq)
  intro waits at_ opened bench_parts bench_tree_rows bench_tree_cells bench_looses waiting H locs ls h hP hD hS hl
  unfold f_X2_connective_92 at h
  refine lv_aload_n hx hb dX2_connective_92 rfl (lv_at hl 0 rfl) ?_
  refine lv_dup hx hb dX2_connective_93 rfl ?_
  refine r_get F hK hP 0 6 rfl inW_X2 wm_173 rfl (by decide) rfl dX2_connective_94 ?_
  refine lv_iconst (v := 1) hx hb dX2_connective_97 (by decide) ?_
  refine lv_iadd hx hb dX2_connective_98 ?_
  refine r_put (wn := (ws_X2_connective cI cJ cB a0 a_sum a_bytes a_bench a_bench_tree a_bench_tree_cells a_bench_starts a_bench_looses a_waiting length waits (at_ + 1) opened parens great bytes bench_parts bench_tree_rows bench_tree_cells bench_tree_cells_n bench_starts bench_looses waiting)) F hK hP hD hS 0 6 rfl inW_X2 wm_173 tyX2_ok nmX2 rfl rfl (by decide) rfl rfl (Nat.le_of_ble_eq_true rfl) rfl dX2_connective_99 (fun H locs hP hD hS => ?_)
  refine lv_iconst (v := 1) hx hb dX2_connective_102 (by decide) ?_
  obtain rfl := Option.some.inj h
  exact r_ret (v := 1) F hr hlk rfl dX2_connective_103 hsz hP hD hS
end G_X2_connective
set_option maxHeartbeats 4000000 in
set_option maxRecDepth 100000 in
theorem c_X2_connective (l : Launch) (D : va_G) (cI cJ cB : ClassId) (a0 a_sum a_bytes a_bench a_bench_tree a_bench_tree_cells a_bench_starts a_bench_looses a_waiting : Nat) (sz : Nat) (length : Int32) (waits : Int32) (at_ : Int32) (opened : Int32) (parens : Int32) (great : Int32) (bytes : Nat → Int32) (bench_parts : Int32) (bench_tree_rows : Int32) (bench_tree_cells : Nat → Int32) (bench_tree_cells_n : Nat) (bench_starts : Nat → Int32) (bench_looses : Nat → Int32) (waiting : Nat → Int32) (N : Nat) {z : Int32 × (Int32) × (Int32) × (Int32) × (Int32) × (Int32) × (Nat → Int32) × (Nat → Int32) × (Nat → Int32)} (h : f_X2_connective N length waits at_ opened bytes bench_parts bench_tree_rows bench_tree_cells bench_tree_cells_n bench_starts bench_looses waiting = some z) : Mg l yX2_connective cX2_connective 2 (some .boolean) rm_X2_connective D (ty0 cI cJ cB) [.ref a0] sz (ws_X2_connective cI cJ cB a0 a_sum a_bytes a_bench a_bench_tree a_bench_tree_cells a_bench_starts a_bench_looses a_waiting length waits at_ opened parens great bytes bench_parts bench_tree_rows bench_tree_cells bench_tree_cells_n bench_starts bench_looses waiting) (some (.int z.1)) (ws_X2_connective cI cJ cB a0 a_sum a_bytes a_bench a_bench_tree a_bench_tree_cells a_bench_starts a_bench_looses a_waiting length z.2.1 z.2.2.1 z.2.2.2.1 parens great bytes z.2.2.2.2.1 z.2.2.2.2.2.1 z.2.2.2.2.2.2.1 bench_tree_cells_n bench_starts z.2.2.2.2.2.2.2.1 z.2.2.2.2.2.2.2.2) := by
  refine Mg.of (by decide) (Nat.le_of_ble_eq_true rfl) ?_
  intro p e s m below meth c CX hK hsz hP hD ls hl
  have CX : Cx p m c cX2_connective 2 s ([.ref a0] : List Value).toArray (Cond.code yX2_connective cX2_connective 2 (some .boolean)) RX2 meth (some .boolean) := CX
  obtain ⟨F, hr, hlk, hNw⟩ := id CX
  have hx := F.1
  have hb := F.2.1
  have hown := F.2.2.2.1
  have hl : lv_has ls 2 [(0, .ref a0)] := hl
  have hS : va_S (va_A (ws_X2_connective cI cJ cB a0 a_sum a_bytes a_bench a_bench_tree a_bench_tree_cells a_bench_starts a_bench_looses a_waiting length waits at_ opened parens great bytes bench_parts bench_tree_rows bench_tree_cells bench_tree_cells_n bench_starts bench_looses waiting) sz) s.heap s.heap [] := va_S.rf
  have hA : ∀ q, s.heap.size ≤ q → va_A (ws_X2_connective cI cJ cB a0 a_sum a_bytes a_bench a_bench_tree a_bench_tree_cells a_bench_starts a_bench_looses a_waiting length waits at_ opened parens great bytes bench_parts bench_tree_rows bench_tree_cells bench_tree_cells_n bench_starts bench_looses waiting) sz q := fun q hq => Or.inr (hsz ▸ hq)
  unfold f_X2_connective at h
  refine lv_aload_n hx hb dX2_connective_0 rfl (lv_at hl 0 rfl) ?_
  obtain ⟨z1, hz1, h⟩ := o_b h
  refine k_v (wn := (ws_X2_connective cI cJ cB a0 a_sum a_bytes a_bench a_bench_tree a_bench_tree_cells a_bench_starts a_bench_looses a_waiting length waits z1.2 opened parens great bytes bench_parts bench_tree_rows bench_tree_cells bench_tree_cells_n bench_starts bench_looses waiting)) (As := []) (rest := []) F hNw hK hP hD hS hA (c_X2_nextLetter l D cI cJ cB a0 a_bench a_sum a_waiting a_bytes _ length waits at_ opened parens great bytes N hz1) wm_638 cv_X2_nextLetter [0, 1] [2, 3, 4, 5, 6, 7] [6, 7, 0, 1, 2, 3, 4, 5] (⟨rfl, rfl, rfl, by decide, rfl⟩ : Ix [0, 1] [2, 3, 4, 5, 6, 7] [6, 7, 0, 1, 2, 3, 4, 5] 8) rfl rfl rfl rfl rfl rfl ⟨rfl, rfl, by decide, by decide⟩ hl.1 rfl (Nat.le_of_ble_eq_true rfl) ⟨Nat.zero_le _, Nat.zero_le _⟩ dX2_connective_1 (fun H locs hP hD hS => ?_)
  refine lv_istore_n (lv' := [(1, .int z1.1), (0, .ref a0)]) hx hb dX2_connective_4 rfl hl (by decide) rfl (fun ls hl => ?_)
  refine lv_iload_n hx hb dX2_connective_5 rfl (lv_at hl 0 rfl) ?_
  refine lv_bipush (v := 38) hx hb dX2_connective_6 (by decide) ?_
  refine lv_icmp_ne (tgt := 25) hx hb dX2_connective_8 (by decide) (fun c8 => ?_) (fun c8 => ?_)
  · have h := o_f c8 h
    refine lv_iload_n hx hb dX2_connective_25 rfl (lv_at hl 0 rfl) ?_
    refine lv_bipush (v := 124) hx hb dX2_connective_26 (by decide) ?_
    refine lv_icmp_ne (tgt := 45) hx hb dX2_connective_28 (by decide) (fun c28 => ?_) (fun c28 => ?_)
    · have h := o_f c28 h
      refine lv_iload_n hx hb dX2_connective_45 rfl (lv_at hl 0 rfl) ?_
      refine lv_bipush (v := 45) hx hb dX2_connective_46 (by decide) ?_
      refine lv_icmp_ne (tgt := 90) hx hb dX2_connective_48 (by decide) (fun c48 => ?_) (fun c48 => ?_)
      · have h := o_f c48 h
        refine lv_iconst (v := 0) hx hb dX2_connective_90 (by decide) ?_
        obtain rfl := Option.some.inj h
        exact r_ret (v := 0) F hr hlk rfl dX2_connective_91 hsz hP hD hS
      · have h := o_t c48 h
        refine lv_aload_n hx hb dX2_connective_51 rfl (lv_at hl 1 rfl) ?_
        refine lv_dup hx hb dX2_connective_52 rfl ?_
        refine r_get F hK hP 0 6 rfl inW_X2 wm_173 rfl (by decide) rfl dX2_connective_53 ?_
        refine lv_iconst (v := 1) hx hb dX2_connective_56 (by decide) ?_
        refine lv_iadd hx hb dX2_connective_57 ?_
        refine r_put (wn := (ws_X2_connective cI cJ cB a0 a_sum a_bytes a_bench a_bench_tree a_bench_tree_cells a_bench_starts a_bench_looses a_waiting length waits (z1.2 + 1) opened parens great bytes bench_parts bench_tree_rows bench_tree_cells bench_tree_cells_n bench_starts bench_looses waiting)) F hK hP hD hS 0 6 rfl inW_X2 wm_173 tyX2_ok nmX2 rfl rfl (by decide) rfl rfl (Nat.le_of_ble_eq_true rfl) rfl dX2_connective_58 (fun H locs hP hD hS => ?_)
        refine lv_aload_n hx hb dX2_connective_61 rfl (lv_at hl 1 rfl) ?_
        refine lv_aload_n hx hb dX2_connective_62 rfl (lv_at hl 1 rfl) ?_
        refine r_get F hK hP 0 6 rfl inW_X2 wm_173 rfl (by decide) rfl dX2_connective_63 ?_
        obtain ⟨z66, hz66, h⟩ := o_b h
        refine k_v (wn := (ws_X2_connective cI cJ cB a0 a_sum a_bytes a_bench a_bench_tree a_bench_tree_cells a_bench_starts a_bench_looses a_waiting length waits (z1.2 + 1) opened parens great bytes bench_parts bench_tree_rows bench_tree_cells bench_tree_cells_n bench_starts bench_looses waiting)) (As := [.int (z1.2 + 1)]) (rest := []) F hNw hK hP hD hS hA (c_X2_letterAt l D cI cJ cB a0 a_bench a_sum a_waiting a_bytes _ length waits (z1.2 + 1) opened parens great bytes (z1.2 + 1) N hz66) wm_642 cv_X2_letterAt [0, 1] [2, 3, 4, 5, 6, 7] [6, 7, 0, 1, 2, 3, 4, 5] (⟨rfl, rfl, rfl, by decide, rfl⟩ : Ix [0, 1] [2, 3, 4, 5, 6, 7] [6, 7, 0, 1, 2, 3, 4, 5] 8) rfl rfl rfl rfl rfl rfl ⟨rfl, rfl, by decide, by decide⟩ hl.1 rfl (Nat.le_of_ble_eq_true rfl) ⟨Nat.zero_le _, Nat.zero_le _⟩ dX2_connective_66 (fun H locs hP hD hS => ?_)
        refine lv_bipush (v := 62) hx hb dX2_connective_69 (by decide) ?_
        refine lv_icmp_eq (tgt := 76) hx hb dX2_connective_71 (by decide) (fun c71 => ?_) (fun c71 => ?_)
        · have h := o_t c71 h
          refine lv_aload_n hx hb dX2_connective_76 rfl (lv_at hl 1 rfl) ?_
          refine lv_iconst (v := 2) hx hb dX2_connective_77 (by decide) ?_
          obtain ⟨z78, hz78, h⟩ := o_b h
          refine k_v (wn := (ws_X2_connective cI cJ cB a0 a_sum a_bytes a_bench a_bench_tree a_bench_tree_cells a_bench_starts a_bench_looses a_waiting length z78.1 (z1.2 + 1) z78.2.1 parens great bytes z78.2.2.1 z78.2.2.2.1 z78.2.2.2.2.1 bench_tree_cells_n bench_starts z78.2.2.2.2.2 waiting)) (As := [.int 2]) (rest := []) F hNw hK hP hD hS hA (c_X2_carryOut l D cI cJ cB a0 a_bytes a_sum a_bench a_bench_tree a_bench_tree_cells a_bench_starts a_bench_looses a_waiting _ length waits (z1.2 + 1) opened parens great bench_parts bench_tree_rows bench_tree_cells bench_tree_cells_n bench_starts bench_looses waiting 2 N hz78) wm_745 cv_X2_carryOut [0, 2, 3, 4, 5, 6, 7] [1] [1, 0, 2, 3, 4, 5, 6, 7] (⟨rfl, rfl, rfl, by decide, rfl⟩ : Ix [0, 2, 3, 4, 5, 6, 7] [1] [1, 0, 2, 3, 4, 5, 6, 7] 8) rfl rfl rfl rfl rfl rfl ⟨rfl, rfl, by decide, by decide⟩ hl.1 rfl (Nat.le_of_ble_eq_true rfl) ⟨Nat.zero_le _, Nat.zero_le _⟩ dX2_connective_78 (fun H locs hP hD hS => ?_)
          refine lv_aload_n hx hb dX2_connective_81 rfl (lv_at hl 1 rfl) ?_
          refine lv_bipush (v := 10) hx hb dX2_connective_82 (by decide) ?_
          obtain ⟨z84, hz84, h⟩ := o_b h
          refine k_v (wn := (ws_X2_connective cI cJ cB a0 a_sum a_bytes a_bench a_bench_tree a_bench_tree_cells a_bench_starts a_bench_looses a_waiting length z84.1 (z1.2 + 1) z78.2.1 parens great bytes z78.2.2.1 z78.2.2.2.1 z78.2.2.2.2.1 bench_tree_cells_n bench_starts z78.2.2.2.2.2 z84.2)) (As := [.int 10]) (rest := []) F hNw hK hP hD hS hA (c_X2_await l D cI cJ cB a0 a_bytes a_bench a_sum a_waiting _ length z78.1 (z1.2 + 1) z78.2.1 parens great waiting 10 N hz84) wm_646 cv_X2_await [0, 7] [1, 2, 3, 4, 5, 6] [6, 0, 1, 2, 3, 4, 5, 7] (⟨rfl, rfl, rfl, by decide, rfl⟩ : Ix [0, 7] [1, 2, 3, 4, 5, 6] [6, 0, 1, 2, 3, 4, 5, 7] 8) rfl rfl rfl rfl rfl rfl ⟨rfl, rfl, by decide, by decide⟩ hl.1 rfl (Nat.le_of_ble_eq_true rfl) ⟨Nat.zero_le _, Nat.zero_le _⟩ dX2_connective_84 (fun H locs hP hD hS => ?_)
          refine lv_goto (tgt := 92) hx hb dX2_connective_87 (by decide) ?_
          exact w_X2_connective_92 CX hK hsz z84.1 (z1.2 + 1) z78.2.1 z78.2.2.1 z78.2.2.2.1 z78.2.2.2.2.1 z78.2.2.2.2.2 z84.2 _ _ _ h hP hD hS (lv_sub hl [1] rfl)
        · have h := o_f c71 h
          refine lv_iconst (v := 0) hx hb dX2_connective_74 (by decide) ?_
          obtain rfl := Option.some.inj h
          exact r_ret (v := 0) F hr hlk rfl dX2_connective_75 hsz hP hD hS
    · have h := o_t c28 h
      refine lv_aload_n hx hb dX2_connective_31 rfl (lv_at hl 1 rfl) ?_
      refine lv_iconst (v := 2) hx hb dX2_connective_32 (by decide) ?_
      obtain ⟨z33, hz33, h⟩ := o_b h
      refine k_v (wn := (ws_X2_connective cI cJ cB a0 a_sum a_bytes a_bench a_bench_tree a_bench_tree_cells a_bench_starts a_bench_looses a_waiting length z33.1 z1.2 z33.2.1 parens great bytes z33.2.2.1 z33.2.2.2.1 z33.2.2.2.2.1 bench_tree_cells_n bench_starts z33.2.2.2.2.2 waiting)) (As := [.int 2]) (rest := []) F hNw hK hP hD hS hA (c_X2_carryOut l D cI cJ cB a0 a_bytes a_sum a_bench a_bench_tree a_bench_tree_cells a_bench_starts a_bench_looses a_waiting _ length waits z1.2 opened parens great bench_parts bench_tree_rows bench_tree_cells bench_tree_cells_n bench_starts bench_looses waiting 2 N hz33) wm_745 cv_X2_carryOut [0, 2, 3, 4, 5, 6, 7] [1] [1, 0, 2, 3, 4, 5, 6, 7] (⟨rfl, rfl, rfl, by decide, rfl⟩ : Ix [0, 2, 3, 4, 5, 6, 7] [1] [1, 0, 2, 3, 4, 5, 6, 7] 8) rfl rfl rfl rfl rfl rfl ⟨rfl, rfl, by decide, by decide⟩ hl.1 rfl (Nat.le_of_ble_eq_true rfl) ⟨Nat.zero_le _, Nat.zero_le _⟩ dX2_connective_33 (fun H locs hP hD hS => ?_)
      refine lv_aload_n hx hb dX2_connective_36 rfl (lv_at hl 1 rfl) ?_
      refine lv_bipush (v := 7) hx hb dX2_connective_37 (by decide) ?_
      obtain ⟨z39, hz39, h⟩ := o_b h
      refine k_v (wn := (ws_X2_connective cI cJ cB a0 a_sum a_bytes a_bench a_bench_tree a_bench_tree_cells a_bench_starts a_bench_looses a_waiting length z39.1 z1.2 z33.2.1 parens great bytes z33.2.2.1 z33.2.2.2.1 z33.2.2.2.2.1 bench_tree_cells_n bench_starts z33.2.2.2.2.2 z39.2)) (As := [.int 7]) (rest := []) F hNw hK hP hD hS hA (c_X2_await l D cI cJ cB a0 a_bytes a_bench a_sum a_waiting _ length z33.1 z1.2 z33.2.1 parens great waiting 7 N hz39) wm_646 cv_X2_await [0, 7] [1, 2, 3, 4, 5, 6] [6, 0, 1, 2, 3, 4, 5, 7] (⟨rfl, rfl, rfl, by decide, rfl⟩ : Ix [0, 7] [1, 2, 3, 4, 5, 6] [6, 0, 1, 2, 3, 4, 5, 7] 8) rfl rfl rfl rfl rfl rfl ⟨rfl, rfl, by decide, by decide⟩ hl.1 rfl (Nat.le_of_ble_eq_true rfl) ⟨Nat.zero_le _, Nat.zero_le _⟩ dX2_connective_39 (fun H locs hP hD hS => ?_)
      refine lv_goto (tgt := 92) hx hb dX2_connective_42 (by decide) ?_
      exact w_X2_connective_92 CX hK hsz z39.1 z1.2 z33.2.1 z33.2.2.1 z33.2.2.2.1 z33.2.2.2.2.1 z33.2.2.2.2.2 z39.2 _ _ _ h hP hD hS (lv_sub hl [1] rfl)
  · have h := o_t c8 h
    refine lv_aload_n hx hb dX2_connective_11 rfl (lv_at hl 1 rfl) ?_
    refine lv_iconst (v := 3) hx hb dX2_connective_12 (by decide) ?_
    obtain ⟨z13, hz13, h⟩ := o_b h
    refine k_v (wn := (ws_X2_connective cI cJ cB a0 a_sum a_bytes a_bench a_bench_tree a_bench_tree_cells a_bench_starts a_bench_looses a_waiting length z13.1 z1.2 z13.2.1 parens great bytes z13.2.2.1 z13.2.2.2.1 z13.2.2.2.2.1 bench_tree_cells_n bench_starts z13.2.2.2.2.2 waiting)) (As := [.int 3]) (rest := []) F hNw hK hP hD hS hA (c_X2_carryOut l D cI cJ cB a0 a_bytes a_sum a_bench a_bench_tree a_bench_tree_cells a_bench_starts a_bench_looses a_waiting _ length waits z1.2 opened parens great bench_parts bench_tree_rows bench_tree_cells bench_tree_cells_n bench_starts bench_looses waiting 3 N hz13) wm_745 cv_X2_carryOut [0, 2, 3, 4, 5, 6, 7] [1] [1, 0, 2, 3, 4, 5, 6, 7] (⟨rfl, rfl, rfl, by decide, rfl⟩ : Ix [0, 2, 3, 4, 5, 6, 7] [1] [1, 0, 2, 3, 4, 5, 6, 7] 8) rfl rfl rfl rfl rfl rfl ⟨rfl, rfl, by decide, by decide⟩ hl.1 rfl (Nat.le_of_ble_eq_true rfl) ⟨Nat.zero_le _, Nat.zero_le _⟩ dX2_connective_13 (fun H locs hP hD hS => ?_)
    refine lv_aload_n hx hb dX2_connective_16 rfl (lv_at hl 1 rfl) ?_
    refine lv_bipush (v := 6) hx hb dX2_connective_17 (by decide) ?_
    obtain ⟨z19, hz19, h⟩ := o_b h
    refine k_v (wn := (ws_X2_connective cI cJ cB a0 a_sum a_bytes a_bench a_bench_tree a_bench_tree_cells a_bench_starts a_bench_looses a_waiting length z19.1 z1.2 z13.2.1 parens great bytes z13.2.2.1 z13.2.2.2.1 z13.2.2.2.2.1 bench_tree_cells_n bench_starts z13.2.2.2.2.2 z19.2)) (As := [.int 6]) (rest := []) F hNw hK hP hD hS hA (c_X2_await l D cI cJ cB a0 a_bytes a_bench a_sum a_waiting _ length z13.1 z1.2 z13.2.1 parens great waiting 6 N hz19) wm_646 cv_X2_await [0, 7] [1, 2, 3, 4, 5, 6] [6, 0, 1, 2, 3, 4, 5, 7] (⟨rfl, rfl, rfl, by decide, rfl⟩ : Ix [0, 7] [1, 2, 3, 4, 5, 6] [6, 0, 1, 2, 3, 4, 5, 7] 8) rfl rfl rfl rfl rfl rfl ⟨rfl, rfl, by decide, by decide⟩ hl.1 rfl (Nat.le_of_ble_eq_true rfl) ⟨Nat.zero_le _, Nat.zero_le _⟩ dX2_connective_19 (fun H locs hP hD hS => ?_)
    refine lv_goto (tgt := 92) hx hb dX2_connective_22 (by decide) ?_
    exact w_X2_connective_92 CX hK hsz z19.1 z1.2 z13.2.1 z13.2.2.1 z13.2.2.2.1 z13.2.2.2.2.1 z13.2.2.2.2.2 z19.2 _ _ _ h hP hD hS (lv_sub hl [1] rfl)
section G_X2_finish
abbrev ws_X2_finish (cI cJ cB : ClassId) (a0 a_bytes a_sum a_bench a_bench_tree a_bench_tree_cells a_bench_starts a_bench_looses a_waiting : Nat) (length : Int32) (waits : Int32) (at_ : Int32) (opened : Int32) (parens : Int32) (great : Int32) (bench_parts : Int32) (bench_tree_rows : Int32) (bench_tree_cells : Nat → Int32) (bench_tree_cells_n : Nat) (bench_starts : Nat → Int32) (bench_looses : Nat → Int32) (waiting : Nat → Int32) : va_W := [(a0, .inr (4, [.ref a_bytes, .ref a_bench, .ref a_sum, .ref a_waiting, .int length, .int waits, .int at_, .int opened, .int parens, .int great])), (a_bench, .inr (2, [.ref a_bench_tree, .ref a_bench_starts, .ref a_bench_looses, .int bench_parts])), (a_bench_tree, .inr (7, [.ref a_bench_tree_cells, .int bench_tree_rows])), (a_bench_tree_cells, .inl (cI, bench_tree_cells_n, .inl bench_tree_cells)), (a_bench_starts, .inl (cI, 402, .inl bench_starts)), (a_bench_looses, .inl (cI, 402, .inl bench_looses)), (a_waiting, .inl (cI, 240, .inl waiting))]
abbrev rm_X2_finish : Room := { frames := 6, cells := 0, slots := 0, locals := 141 }
def f_X2_finish_30 (N : Nat) (waits : Int32) (at_ : Int32) (opened : Int32) (parens : Int32) (great : Int32) (bench_parts : Int32) (bench_tree_rows : Int32) (bench_tree_cells : Nat → Int32) (bench_tree_cells_n : Nat) (bench_starts : Nat → Int32) (bench_looses : Nat → Int32) (waiting : Nat → Int32) (s0 : Int32) : Option (Int32 × (Int32) × (Int32) × (Int32) × (Int32) × (Nat → Int32) × (Nat → Int32)) := some (s0, waits, opened, bench_parts, bench_tree_rows, bench_tree_cells, bench_looses)
def f_X2_finish (N : Nat) (waits : Int32) (at_ : Int32) (opened : Int32) (parens : Int32) (great : Int32) (bench_parts : Int32) (bench_tree_rows : Int32) (bench_tree_cells : Nat → Int32) (bench_tree_cells_n : Nat) (bench_starts : Nat → Int32) (bench_looses : Nat → Int32) (waiting : Nat → Int32) : Option (Int32 × (Int32) × (Int32) × (Int32) × (Int32) × (Nat → Int32) × (Nat → Int32)) := ifb (parens ≤ 0) ((f_X2_carryOut N waits opened bench_parts bench_tree_rows bench_tree_cells bench_tree_cells_n bench_starts bench_looses waiting 1).bind (fun z14 => ifb (great = 0) (f_X2_finish_30 N z14.1 at_ z14.2.1 parens great z14.2.2.1 z14.2.2.2.1 z14.2.2.2.2.1 bench_tree_cells_n bench_starts z14.2.2.2.2.2 waiting (-1)) (f_X2_finish_30 N z14.1 at_ z14.2.1 parens great z14.2.2.1 z14.2.2.2.1 z14.2.2.2.2.1 bench_tree_cells_n bench_starts z14.2.2.2.2.2 waiting (-2)))) (some (at_, waits, opened, bench_parts, bench_tree_rows, bench_tree_cells, bench_looses))
variable {p : Program} {l : Launch} {e : Env} {s : State} {m : MethodId} {below : List Frame} {meth : Method} {c : Code} {args : Array Value} {x0 : Cond} {D : va_G} {cI cJ cB : ClassId} {sz N : Nat} {ws0 : va_W} {a0 a_bytes a_sum a_bench a_bench_tree a_bench_tree_cells a_bench_starts a_bench_looses a_waiting : Nat} {length : Int32} {at_ : Int32} {parens : Int32} {great : Int32} {bench_tree_cells_n : Nat} {bench_starts : Nat → Int32} {waiting : Nat → Int32} {z : Int32 × (Int32) × (Int32) × (Int32) × (Int32) × (Nat → Int32) × (Nat → Int32)}
set_option maxHeartbeats 4000000 in
set_option maxRecDepth 100000 in
theorem w_X2_finish_30 (CX : Cx p m c cX2_finish 1 s args x0 RX2 meth (some .int)) (hK : va_K D vwCl (ty0 cI cJ cB) s) (hsz : s.heap.size = sz) : ∀ (waits : Int32) (opened : Int32) (bench_parts : Int32) (bench_tree_rows : Int32) (bench_tree_cells : Nat → Int32) (bench_looses : Nat → Int32) (s0 : Int32) (H : Heap) (locs : List Loc) (ls : Array Slot), f_X2_finish_30 N waits at_ opened parens great bench_parts bench_tree_rows bench_tree_cells bench_tree_cells_n bench_starts bench_looses waiting s0 = some z → va_P D vwCl (ws_X2_finish cI cJ cB a0 a_bytes a_sum a_bench a_bench_tree a_bench_tree_cells a_bench_starts a_bench_looses a_waiting length waits at_ opened parens great bench_parts bench_tree_rows bench_tree_cells bench_tree_cells_n bench_starts bench_looses waiting) H → va_D (va_A ws0 sz) (ws_X2_finish cI cJ cB a0 a_bytes a_sum a_bench a_bench_tree a_bench_tree_cells a_bench_starts a_bench_looses a_waiting length waits at_ opened parens great bench_parts bench_tree_rows bench_tree_cells bench_tree_cells_n bench_starts bench_looses waiting) → va_S (va_A ws0 sz) s.heap H locs → lv_has ls 1 [] → W p l e rm_X2_finish s m args below meth c H locs 0 0 (MQ below (gQ D sz ws0 (ws_X2_finish cI cJ cB a0 a_bytes a_sum a_bench a_bench_tree a_bench_tree_cells a_bench_starts a_bench_looses a_waiting length z.2.1 at_ z.2.2.1 parens great z.2.2.2.1 z.2.2.2.2.1 z.2.2.2.2.2.1 bench_tree_cells_n bench_starts z.2.2.2.2.2.2 waiting) (some (.int z.1))) args s 0 0 (va_A ws0 sz)) (F0 m 30 ls [.int s0]) := by
  obtain ⟨F, hr, hlk, hNw⟩ := id CX
  have hx := F.1
  have hb := F.2.1
  have hown := F.2.2.2.1
  have hA : ∀ q, s.heap.size ≤ q → va_A ws0 sz q := fun q hq => Or.inr (hsz ▸ hq)
  intro waits opened bench_parts bench_tree_rows bench_tree_cells bench_looses s0 H locs ls h hP hD hS hl
  unfold f_X2_finish_30 at h
  obtain rfl := Option.some.inj h
  exact r_ret (v := s0) F hr hlk rfl dX2_finish_30 hsz hP hD hS
end G_X2_finish
set_option maxHeartbeats 4000000 in
set_option maxRecDepth 100000 in
theorem c_X2_finish (l : Launch) (D : va_G) (cI cJ cB : ClassId) (a0 a_bytes a_sum a_bench a_bench_tree a_bench_tree_cells a_bench_starts a_bench_looses a_waiting : Nat) (sz : Nat) (length : Int32) (waits : Int32) (at_ : Int32) (opened : Int32) (parens : Int32) (great : Int32) (bench_parts : Int32) (bench_tree_rows : Int32) (bench_tree_cells : Nat → Int32) (bench_tree_cells_n : Nat) (bench_starts : Nat → Int32) (bench_looses : Nat → Int32) (waiting : Nat → Int32) (N : Nat) {z : Int32 × (Int32) × (Int32) × (Int32) × (Int32) × (Nat → Int32) × (Nat → Int32)} (h : f_X2_finish N waits at_ opened parens great bench_parts bench_tree_rows bench_tree_cells bench_tree_cells_n bench_starts bench_looses waiting = some z) : Mg l yX2_finish cX2_finish 1 (some .int) rm_X2_finish D (ty0 cI cJ cB) [.ref a0] sz (ws_X2_finish cI cJ cB a0 a_bytes a_sum a_bench a_bench_tree a_bench_tree_cells a_bench_starts a_bench_looses a_waiting length waits at_ opened parens great bench_parts bench_tree_rows bench_tree_cells bench_tree_cells_n bench_starts bench_looses waiting) (some (.int z.1)) (ws_X2_finish cI cJ cB a0 a_bytes a_sum a_bench a_bench_tree a_bench_tree_cells a_bench_starts a_bench_looses a_waiting length z.2.1 at_ z.2.2.1 parens great z.2.2.2.1 z.2.2.2.2.1 z.2.2.2.2.2.1 bench_tree_cells_n bench_starts z.2.2.2.2.2.2 waiting) := by
  refine Mg.of (by decide) (Nat.le_of_ble_eq_true rfl) ?_
  intro p e s m below meth c CX hK hsz hP hD ls hl
  have CX : Cx p m c cX2_finish 1 s ([.ref a0] : List Value).toArray (Cond.code yX2_finish cX2_finish 1 (some .int)) RX2 meth (some .int) := CX
  obtain ⟨F, hr, hlk, hNw⟩ := id CX
  have hx := F.1
  have hb := F.2.1
  have hown := F.2.2.2.1
  have hl : lv_has ls 1 [(0, .ref a0)] := hl
  have hS : va_S (va_A (ws_X2_finish cI cJ cB a0 a_bytes a_sum a_bench a_bench_tree a_bench_tree_cells a_bench_starts a_bench_looses a_waiting length waits at_ opened parens great bench_parts bench_tree_rows bench_tree_cells bench_tree_cells_n bench_starts bench_looses waiting) sz) s.heap s.heap [] := va_S.rf
  have hA : ∀ q, s.heap.size ≤ q → va_A (ws_X2_finish cI cJ cB a0 a_bytes a_sum a_bench a_bench_tree a_bench_tree_cells a_bench_starts a_bench_looses a_waiting length waits at_ opened parens great bench_parts bench_tree_rows bench_tree_cells bench_tree_cells_n bench_starts bench_looses waiting) sz q := fun q hq => Or.inr (hsz ▸ hq)
  unfold f_X2_finish at h
  refine lv_aload_n hx hb dX2_finish_0 rfl (lv_at hl 0 rfl) ?_
  refine r_get F hK hP 0 8 rfl inW_X2 wm_175 rfl (by decide) rfl dX2_finish_1 ?_
  refine lv_if_le (tgt := 12) hx hb dX2_finish_4 (by decide) (fun c4 => ?_) (fun c4 => ?_)
  · have h := o_t c4 h
    refine lv_aload_n hx hb dX2_finish_12 rfl (lv_at hl 0 rfl) ?_
    refine lv_iconst (v := 1) hx hb dX2_finish_13 (by decide) ?_
    obtain ⟨z14, hz14, h⟩ := o_b h
    refine k_v (wn := (ws_X2_finish cI cJ cB a0 a_bytes a_sum a_bench a_bench_tree a_bench_tree_cells a_bench_starts a_bench_looses a_waiting length z14.1 at_ z14.2.1 parens great z14.2.2.1 z14.2.2.2.1 z14.2.2.2.2.1 bench_tree_cells_n bench_starts z14.2.2.2.2.2 waiting)) (As := [.int 1]) (rest := []) F hNw hK hP hD hS hA (c_X2_carryOut l D cI cJ cB a0 a_bytes a_sum a_bench a_bench_tree a_bench_tree_cells a_bench_starts a_bench_looses a_waiting _ length waits at_ opened parens great bench_parts bench_tree_rows bench_tree_cells bench_tree_cells_n bench_starts bench_looses waiting 1 N hz14) wm_745 cv_X2_carryOut [0, 1, 2, 3, 4, 5, 6] [] [0, 1, 2, 3, 4, 5, 6] (⟨rfl, rfl, rfl, by decide, rfl⟩ : Ix [0, 1, 2, 3, 4, 5, 6] [] [0, 1, 2, 3, 4, 5, 6] 7) rfl rfl rfl rfl rfl rfl ⟨rfl, rfl, by decide, by decide⟩ hl.1 rfl (Nat.le_of_ble_eq_true rfl) ⟨Nat.zero_le _, Nat.zero_le _⟩ dX2_finish_14 (fun H locs hP hD hS => ?_)
    refine lv_aload_n hx hb dX2_finish_17 rfl (lv_at hl 0 rfl) ?_
    refine r_get F hK hP 0 9 rfl inW_X2 wm_176 rfl (by decide) rfl dX2_finish_18 ?_
    refine lv_if_eq (tgt := 29) hx hb dX2_finish_21 (by decide) (fun c21 => ?_) (fun c21 => ?_)
    · have h := o_t c21 h
      refine lv_iconst (v := (-1)) hx hb dX2_finish_29 (by decide) ?_
      exact w_X2_finish_30 CX hK hsz z14.1 z14.2.1 z14.2.2.1 z14.2.2.2.1 z14.2.2.2.2.1 z14.2.2.2.2.2 (-1) _ _ _ h hP hD hS (lv_sub hl [] rfl)
    · have h := o_f c21 h
      refine lv_bipush (v := (-2)) hx hb dX2_finish_24 (by decide) ?_
      refine lv_goto (tgt := 30) hx hb dX2_finish_26 (by decide) ?_
      exact w_X2_finish_30 CX hK hsz z14.1 z14.2.1 z14.2.2.1 z14.2.2.2.1 z14.2.2.2.2.1 z14.2.2.2.2.2 (-2) _ _ _ h hP hD hS (lv_sub hl [] rfl)
  · have h := o_f c4 h
    refine lv_aload_n hx hb dX2_finish_7 rfl (lv_at hl 0 rfl) ?_
    refine r_get F hK hP 0 6 rfl inW_X2 wm_173 rfl (by decide) rfl dX2_finish_8 ?_
    obtain rfl := Option.some.inj h
    exact r_ret (v := at_) F hr hlk rfl dX2_finish_11 hsz hP hD hS
section G_X2_item
abbrev ws_X2_item (cI cJ cB : ClassId) (a0 a_bench a_waiting a_bytes a_sum a_sum_numbers : Nat) (length : Int32) (waits : Int32) (at_ : Int32) (opened : Int32) (parens : Int32) (great : Int32) (bytes : Nat → Int32) (sum_numbers : Nat → Int64) : va_W := [(a0, .inr (4, [.ref a_bytes, .ref a_bench, .ref a_sum, .ref a_waiting, .int length, .int waits, .int at_, .int opened, .int parens, .int great])), (a_bytes, .inl (cB, 240, .inl bytes)), (a_sum, .inr (6, [.ref a_sum_numbers])), (a_sum_numbers, .inl (cJ, 9, .inr (.inl sum_numbers)))]
abbrev rm_X2_item : Room := { frames := 2, cells := 0, slots := 0, locals := 44 }
def f_X2_item_126 (N : Nat) (length : Int32) (at_ : Int32) (bytes : Nat → Int32) (sum_numbers : Nat → Int64) (y1 : Int32) (y4 : Int32) (y5 : Int32) (s1 : Int32) : Option (Int32 × (Int32) × (Nat → Int64)) := ckp (¬ y5 = 0) ((f_X4_add N sum_numbers s1 ((y1.toInt64 * y4.toInt64) * ((27720 / y5).toInt64))).bind (fun z140 => some (1, at_, z140)))
def f_X2_item_111 (N : Nat) (length : Int32) (at_ : Int32) (bytes : Nat → Int32) (sum_numbers : Nat → Int64) (y1 : Int32) (y3 : Int32) (y4 : Int32) (y5 : Int32) : Option (Int32 × (Int32) × (Nat → Int64)) := ifb (y3 = (-1)) (f_X2_item_126 N length at_ bytes sum_numbers y1 y4 y5 8) (f_X2_item_126 N length at_ bytes sum_numbers y1 y4 y5 y3)
def f_X2_item_78 (N : Nat) (length : Int32) (at_ : Int32) (bytes : Nat → Int32) (sum_numbers : Nat → Int64) (y1 : Int32) (y4 : Int32) (s0 : Int32) : Option (Int32 × (Int32) × (Nat → Int64)) := ifb (1 ≤ s0) ((f_X2_nextLetter N length at_ bytes).bind (fun z89 => (f_X2_variableOf N z89.1).bind (fun z92 => ifb (z92 = (-1)) (f_X2_item_111 N length z89.2 bytes sum_numbers y1 z92 y4 s0) (f_X2_item_111 N length (z89.2 + 1) bytes sum_numbers y1 z92 y4 s0)))) (some (0, at_, sum_numbers))
def f_X2_item (N : Nat) (length : Int32) (at_ : Int32) (bytes : Nat → Int32) (sum_numbers : Nat → Int64) (x1 : Int32) : Option (Int32 × (Int32) × (Nat → Int64)) := (f_X2_nextLetter N length at_ bytes).bind (fun z1 => (f_X2_variableOf N z1.1).bind (fun z6 => ifb (z6 = (-1)) ((f_X2_digitOf N z1.1).bind (fun z42 => ifb (z42 = (-1)) (some (0, z1.2, sum_numbers)) ((f_X2_wholeNumber N length z1.2 bytes).bind (fun z52 => (f_X2_letterAt N length bytes z52.2).bind (fun z62 => ifb (z62 = 47) ((f_X2_numberBelow N length z52.2 bytes).bind (fun z71 => f_X2_item_78 N length z71.2 bytes sum_numbers x1 z52.1 z71.1)) (f_X2_item_78 N length z52.2 bytes sum_numbers x1 z52.1 1)))))) ((f_X4_add N sum_numbers z6 (x1.toInt64 * 27720)).bind (fun z36 => some (1, z1.2 + 1, z36)))))
variable {p : Program} {l : Launch} {e : Env} {s : State} {m : MethodId} {below : List Frame} {meth : Method} {c : Code} {args : Array Value} {x0 : Cond} {D : va_G} {cI cJ cB : ClassId} {sz N : Nat} {ws0 : va_W} {a0 a_bench a_waiting a_bytes a_sum a_sum_numbers : Nat} {length : Int32} {waits : Int32} {opened : Int32} {parens : Int32} {great : Int32} {bytes : Nat → Int32} {z : Int32 × (Int32) × (Nat → Int64)}
set_option maxHeartbeats 4000000 in
set_option maxRecDepth 100000 in
theorem w_X2_item_126 (CX : Cx p m c cX2_item 6 s args x0 RX2 meth (some .boolean)) (hK : va_K D vwCl (ty0 cI cJ cB) s) (hsz : s.heap.size = sz) : ∀ (at_ : Int32) (sum_numbers : Nat → Int64) (y1 : Int32) (y4 : Int32) (y5 : Int32) (s1 : Int32) (H : Heap) (locs : List Loc) (ls : Array Slot), f_X2_item_126 N length at_ bytes sum_numbers y1 y4 y5 s1 = some z → va_P D vwCl (ws_X2_item cI cJ cB a0 a_bench a_waiting a_bytes a_sum a_sum_numbers length waits at_ opened parens great bytes sum_numbers) H → va_D (va_A ws0 sz) (ws_X2_item cI cJ cB a0 a_bench a_waiting a_bytes a_sum a_sum_numbers length waits at_ opened parens great bytes sum_numbers) → va_S (va_A ws0 sz) s.heap H locs → lv_has ls 6 [(1, .int y1), (4, .int y4), (5, .int y5)] → W p l e rm_X2_item s m args below meth c H locs 0 0 (MQ below (gQ D sz ws0 (ws_X2_item cI cJ cB a0 a_bench a_waiting a_bytes a_sum a_sum_numbers length waits z.2.1 opened parens great bytes z.2.2) (some (.int z.1))) args s 0 0 (va_A ws0 sz)) (F0 m 126 ls [.int s1, .ref a_sum]) := by
  obtain ⟨F, hr, hlk, hNw⟩ := id CX
  have hx := F.1
  have hb := F.2.1
  have hown := F.2.2.2.1
  have hA : ∀ q, s.heap.size ≤ q → va_A ws0 sz q := fun q hq => Or.inr (hsz ▸ hq)
  intro at_ sum_numbers y1 y4 y5 s1 H locs ls h hP hD hS hl
  unfold f_X2_item_126 at h
  refine lv_iload_n hx hb dX2_item_126 rfl (lv_at hl 0 rfl) ?_
  refine lv_i2l hx hb dX2_item_127 rfl ?_
  refine lv_iload hx hb dX2_item_128 (lv_at hl 1 rfl) ?_
  refine lv_i2l hx hb dX2_item_130 rfl ?_
  refine lv_lmul hx hb dX2_item_131 ?_
  refine lv_sipush (v := 27720) hx hb dX2_item_132 (by decide) ?_
  refine lv_iload hx hb dX2_item_135 (lv_at hl 2 rfl) ?_
  obtain ⟨hc137, h⟩ := o_c h
  refine lv_idiv hx hb dX2_item_137 hc137 ?_
  refine lv_i2l hx hb dX2_item_138 rfl ?_
  refine lv_lmul hx hb dX2_item_139 ?_
  obtain ⟨z140, hz140, h⟩ := o_b h
  refine k_v (wn := (ws_X2_item cI cJ cB a0 a_bench a_waiting a_bytes a_sum a_sum_numbers length waits at_ opened parens great bytes z140)) (As := [.int s1, .long ((y1.toInt64 * y4.toInt64) * ((27720 / y5).toInt64))]) (rest := []) F hNw hK hP hD hS hA (c_X4_add l D cI cJ cB a_sum a_sum_numbers _ sum_numbers s1 ((y1.toInt64 * y4.toInt64) * ((27720 / y5).toInt64)) N hz140) wm_690 cv_X4_add [2, 3] [0, 1] [0, 1, 2, 3] (⟨rfl, rfl, rfl, by decide, rfl⟩ : Ix [2, 3] [0, 1] [0, 1, 2, 3] 4) rfl rfl rfl rfl rfl rfl ⟨rfl, rfl, by decide, by decide⟩ hl.1 rfl (Nat.le_of_ble_eq_true rfl) ⟨Nat.zero_le _, Nat.zero_le _⟩ dX2_item_140 (fun H locs hP hD hS => ?_)
  refine lv_iconst (v := 1) hx hb dX2_item_143 (by decide) ?_
  obtain rfl := Option.some.inj h
  exact r_ret (v := 1) F hr hlk rfl dX2_item_144 hsz hP hD hS
set_option maxHeartbeats 4000000 in
set_option maxRecDepth 100000 in
theorem w_X2_item_111 (CX : Cx p m c cX2_item 6 s args x0 RX2 meth (some .boolean)) (hK : va_K D vwCl (ty0 cI cJ cB) s) (hsz : s.heap.size = sz) : ∀ (at_ : Int32) (sum_numbers : Nat → Int64) (y1 : Int32) (y3 : Int32) (y4 : Int32) (y5 : Int32) (H : Heap) (locs : List Loc) (ls : Array Slot), f_X2_item_111 N length at_ bytes sum_numbers y1 y3 y4 y5 = some z → va_P D vwCl (ws_X2_item cI cJ cB a0 a_bench a_waiting a_bytes a_sum a_sum_numbers length waits at_ opened parens great bytes sum_numbers) H → va_D (va_A ws0 sz) (ws_X2_item cI cJ cB a0 a_bench a_waiting a_bytes a_sum a_sum_numbers length waits at_ opened parens great bytes sum_numbers) → va_S (va_A ws0 sz) s.heap H locs → lv_has ls 6 [(0, .ref a0), (1, .int y1), (3, .int y3), (4, .int y4), (5, .int y5)] → W p l e rm_X2_item s m args below meth c H locs 0 0 (MQ below (gQ D sz ws0 (ws_X2_item cI cJ cB a0 a_bench a_waiting a_bytes a_sum a_sum_numbers length waits z.2.1 opened parens great bytes z.2.2) (some (.int z.1))) args s 0 0 (va_A ws0 sz)) (F0 m 111 ls []) := by
  obtain ⟨F, hr, hlk, hNw⟩ := id CX
  have hx := F.1
  have hb := F.2.1
  have hown := F.2.2.2.1
  have hA : ∀ q, s.heap.size ≤ q → va_A ws0 sz q := fun q hq => Or.inr (hsz ▸ hq)
  intro at_ sum_numbers y1 y3 y4 y5 H locs ls h hP hD hS hl
  unfold f_X2_item_111 at h
  refine lv_aload_n hx hb dX2_item_111 rfl (lv_at hl 0 rfl) ?_
  refine r_get F hK hP 0 2 rfl inW_X2 wm_168 rfl (by decide) rfl dX2_item_112 ?_
  refine lv_iload_n hx hb dX2_item_115 rfl (lv_at hl 2 rfl) ?_
  refine lv_iconst (v := (-1)) hx hb dX2_item_116 (by decide) ?_
  refine lv_icmp_ne (tgt := 125) hx hb dX2_item_117 (by decide) (fun c117 => ?_) (fun c117 => ?_)
  · have h := o_f c117 h
    refine lv_iload_n hx hb dX2_item_125 rfl (lv_at hl 2 rfl) ?_
    exact w_X2_item_126 CX hK hsz at_ sum_numbers y1 y4 y5 y3 _ _ _ h hP hD hS (lv_sub hl [1, 3, 4] rfl)
  · have h := o_t c117 h
    refine lv_bipush (v := 8) hx hb dX2_item_120 (by decide) ?_
    refine lv_goto (tgt := 126) hx hb dX2_item_122 (by decide) ?_
    exact w_X2_item_126 CX hK hsz at_ sum_numbers y1 y4 y5 8 _ _ _ h hP hD hS (lv_sub hl [1, 3, 4] rfl)
set_option maxHeartbeats 4000000 in
set_option maxRecDepth 100000 in
theorem w_X2_item_78 (CX : Cx p m c cX2_item 6 s args x0 RX2 meth (some .boolean)) (hK : va_K D vwCl (ty0 cI cJ cB) s) (hsz : s.heap.size = sz) : ∀ (at_ : Int32) (sum_numbers : Nat → Int64) (y1 : Int32) (y4 : Int32) (s0 : Int32) (H : Heap) (locs : List Loc) (ls : Array Slot), f_X2_item_78 N length at_ bytes sum_numbers y1 y4 s0 = some z → va_P D vwCl (ws_X2_item cI cJ cB a0 a_bench a_waiting a_bytes a_sum a_sum_numbers length waits at_ opened parens great bytes sum_numbers) H → va_D (va_A ws0 sz) (ws_X2_item cI cJ cB a0 a_bench a_waiting a_bytes a_sum a_sum_numbers length waits at_ opened parens great bytes sum_numbers) → va_S (va_A ws0 sz) s.heap H locs → lv_has ls 6 [(0, .ref a0), (1, .int y1), (4, .int y4)] → W p l e rm_X2_item s m args below meth c H locs 0 0 (MQ below (gQ D sz ws0 (ws_X2_item cI cJ cB a0 a_bench a_waiting a_bytes a_sum a_sum_numbers length waits z.2.1 opened parens great bytes z.2.2) (some (.int z.1))) args s 0 0 (va_A ws0 sz)) (F0 m 78 ls [.int s0]) := by
  obtain ⟨F, hr, hlk, hNw⟩ := id CX
  have hx := F.1
  have hb := F.2.1
  have hown := F.2.2.2.1
  have hA : ∀ q, s.heap.size ≤ q → va_A ws0 sz q := fun q hq => Or.inr (hsz ▸ hq)
  intro at_ sum_numbers y1 y4 s0 H locs ls h hP hD hS hl
  unfold f_X2_item_78 at h
  refine lv_istore (lv' := [(5, .int s0), (0, .ref a0), (1, .int y1), (4, .int y4)]) hx hb dX2_item_78 hl (by decide) rfl (fun ls hl => ?_)
  refine lv_iload hx hb dX2_item_80 (lv_at hl 0 rfl) ?_
  refine lv_iconst (v := 1) hx hb dX2_item_82 (by decide) ?_
  refine lv_icmp_ge (tgt := 88) hx hb dX2_item_83 (by decide) (fun c83 => ?_) (fun c83 => ?_)
  · have h := o_t c83 h
    refine lv_aload_n hx hb dX2_item_88 rfl (lv_at hl 1 rfl) ?_
    obtain ⟨z89, hz89, h⟩ := o_b h
    refine k_v (wn := (ws_X2_item cI cJ cB a0 a_bench a_waiting a_bytes a_sum a_sum_numbers length waits z89.2 opened parens great bytes sum_numbers)) (As := []) (rest := []) F hNw hK hP hD hS hA (c_X2_nextLetter l D cI cJ cB a0 a_bench a_sum a_waiting a_bytes _ length waits at_ opened parens great bytes N hz89) wm_638 cv_X2_nextLetter [0, 1] [2, 3] [2, 3, 0, 1] (⟨rfl, rfl, rfl, by decide, rfl⟩ : Ix [0, 1] [2, 3] [2, 3, 0, 1] 4) rfl rfl rfl rfl rfl rfl ⟨rfl, rfl, by decide, by decide⟩ hl.1 rfl (Nat.le_of_ble_eq_true rfl) ⟨Nat.zero_le _, Nat.zero_le _⟩ dX2_item_89 (fun H locs hP hD hS => ?_)
    obtain ⟨z92, hz92, h⟩ := o_b h
    refine k_s (wn := (ws_X2_item cI cJ cB a0 a_bench a_waiting a_bytes a_sum a_sum_numbers length waits z89.2 opened parens great bytes sum_numbers)) (As := [.int z89.1]) (rest := []) F hNw hK hP hD hS hA (c_X2_variableOf l D cI cJ cB _ z89.1 N hz92) wm_654 cs_X2_variableOf [] [0, 1, 2, 3] [0, 1, 2, 3] (⟨rfl, rfl, rfl, by decide, rfl⟩ : Ix [] [0, 1, 2, 3] [0, 1, 2, 3] 4) rfl rfl rfl ⟨rfl, rfl, by decide, by decide⟩ hl.1 rfl (Nat.le_of_ble_eq_true rfl) ⟨Nat.zero_le _, Nat.zero_le _⟩ dX2_item_92 (fun H locs hP hD hS => ?_)
    refine lv_istore_n (lv' := [(3, .int z92), (5, .int s0), (0, .ref a0), (1, .int y1), (4, .int y4)]) hx hb dX2_item_95 rfl hl (by decide) rfl (fun ls hl => ?_)
    refine lv_iload_n hx hb dX2_item_96 rfl (lv_at hl 0 rfl) ?_
    refine lv_iconst (v := (-1)) hx hb dX2_item_97 (by decide) ?_
    refine lv_icmp_eq (tgt := 111) hx hb dX2_item_98 (by decide) (fun c98 => ?_) (fun c98 => ?_)
    · have h := o_t c98 h
      exact w_X2_item_111 CX hK hsz z89.2 sum_numbers y1 z92 y4 s0 _ _ _ h hP hD hS (lv_sub hl [2, 3, 0, 4, 1] rfl)
    · have h := o_f c98 h
      refine lv_aload_n hx hb dX2_item_101 rfl (lv_at hl 2 rfl) ?_
      refine lv_dup hx hb dX2_item_102 rfl ?_
      refine r_get F hK hP 0 6 rfl inW_X2 wm_173 rfl (by decide) rfl dX2_item_103 ?_
      refine lv_iconst (v := 1) hx hb dX2_item_106 (by decide) ?_
      refine lv_iadd hx hb dX2_item_107 ?_
      refine r_put (wn := (ws_X2_item cI cJ cB a0 a_bench a_waiting a_bytes a_sum a_sum_numbers length waits (z89.2 + 1) opened parens great bytes sum_numbers)) F hK hP hD hS 0 6 rfl inW_X2 wm_173 tyX2_ok nmX2 rfl rfl (by decide) rfl rfl (Nat.le_of_ble_eq_true rfl) rfl dX2_item_108 (fun H locs hP hD hS => ?_)
      exact w_X2_item_111 CX hK hsz (z89.2 + 1) sum_numbers y1 z92 y4 s0 _ _ _ h hP hD hS (lv_sub hl [2, 3, 0, 4, 1] rfl)
  · have h := o_f c83 h
    refine lv_iconst (v := 0) hx hb dX2_item_86 (by decide) ?_
    obtain rfl := Option.some.inj h
    exact r_ret (v := 0) F hr hlk rfl dX2_item_87 hsz hP hD hS
end G_X2_item
set_option maxHeartbeats 4000000 in
set_option maxRecDepth 100000 in
theorem c_X2_item (l : Launch) (D : va_G) (cI cJ cB : ClassId) (a0 a_bench a_waiting a_bytes a_sum a_sum_numbers : Nat) (sz : Nat) (length : Int32) (waits : Int32) (at_ : Int32) (opened : Int32) (parens : Int32) (great : Int32) (bytes : Nat → Int32) (sum_numbers : Nat → Int64) (x1 : Int32) (N : Nat) {z : Int32 × (Int32) × (Nat → Int64)} (h : f_X2_item N length at_ bytes sum_numbers x1 = some z) : Mg l yX2_item cX2_item 6 (some .boolean) rm_X2_item D (ty0 cI cJ cB) [.ref a0, .int x1] sz (ws_X2_item cI cJ cB a0 a_bench a_waiting a_bytes a_sum a_sum_numbers length waits at_ opened parens great bytes sum_numbers) (some (.int z.1)) (ws_X2_item cI cJ cB a0 a_bench a_waiting a_bytes a_sum a_sum_numbers length waits z.2.1 opened parens great bytes z.2.2) := by
  refine Mg.of (by decide) (Nat.le_of_ble_eq_true rfl) ?_
  intro p e s m below meth c CX hK hsz hP hD ls hl
  have CX : Cx p m c cX2_item 6 s ([.ref a0, .int x1] : List Value).toArray (Cond.code yX2_item cX2_item 6 (some .boolean)) RX2 meth (some .boolean) := CX
  obtain ⟨F, hr, hlk, hNw⟩ := id CX
  have hx := F.1
  have hb := F.2.1
  have hown := F.2.2.2.1
  have hl : lv_has ls 6 [(0, .ref a0), (1, .int x1)] := hl
  have hS : va_S (va_A (ws_X2_item cI cJ cB a0 a_bench a_waiting a_bytes a_sum a_sum_numbers length waits at_ opened parens great bytes sum_numbers) sz) s.heap s.heap [] := va_S.rf
  have hA : ∀ q, s.heap.size ≤ q → va_A (ws_X2_item cI cJ cB a0 a_bench a_waiting a_bytes a_sum a_sum_numbers length waits at_ opened parens great bytes sum_numbers) sz q := fun q hq => Or.inr (hsz ▸ hq)
  unfold f_X2_item at h
  refine lv_aload_n hx hb dX2_item_0 rfl (lv_at hl 0 rfl) ?_
  obtain ⟨z1, hz1, h⟩ := o_b h
  refine k_v (wn := (ws_X2_item cI cJ cB a0 a_bench a_waiting a_bytes a_sum a_sum_numbers length waits z1.2 opened parens great bytes sum_numbers)) (As := []) (rest := []) F hNw hK hP hD hS hA (c_X2_nextLetter l D cI cJ cB a0 a_bench a_sum a_waiting a_bytes _ length waits at_ opened parens great bytes N hz1) wm_638 cv_X2_nextLetter [0, 1] [2, 3] [2, 3, 0, 1] (⟨rfl, rfl, rfl, by decide, rfl⟩ : Ix [0, 1] [2, 3] [2, 3, 0, 1] 4) rfl rfl rfl rfl rfl rfl ⟨rfl, rfl, by decide, by decide⟩ hl.1 rfl (Nat.le_of_ble_eq_true rfl) ⟨Nat.zero_le _, Nat.zero_le _⟩ dX2_item_1 (fun H locs hP hD hS => ?_)
  refine lv_istore_n (lv' := [(2, .int z1.1), (0, .ref a0), (1, .int x1)]) hx hb dX2_item_4 rfl hl (by decide) rfl (fun ls hl => ?_)
  refine lv_iload_n hx hb dX2_item_5 rfl (lv_at hl 0 rfl) ?_
  obtain ⟨z6, hz6, h⟩ := o_b h
  refine k_s (wn := (ws_X2_item cI cJ cB a0 a_bench a_waiting a_bytes a_sum a_sum_numbers length waits z1.2 opened parens great bytes sum_numbers)) (As := [.int z1.1]) (rest := []) F hNw hK hP hD hS hA (c_X2_variableOf l D cI cJ cB _ z1.1 N hz6) wm_654 cs_X2_variableOf [] [0, 1, 2, 3] [0, 1, 2, 3] (⟨rfl, rfl, rfl, by decide, rfl⟩ : Ix [] [0, 1, 2, 3] [0, 1, 2, 3] 4) rfl rfl rfl ⟨rfl, rfl, by decide, by decide⟩ hl.1 rfl (Nat.le_of_ble_eq_true rfl) ⟨Nat.zero_le _, Nat.zero_le _⟩ dX2_item_6 (fun H locs hP hD hS => ?_)
  refine lv_istore_n (lv' := [(3, .int z6), (2, .int z1.1), (0, .ref a0), (1, .int x1)]) hx hb dX2_item_9 rfl hl (by decide) rfl (fun ls hl => ?_)
  refine lv_iload_n hx hb dX2_item_10 rfl (lv_at hl 0 rfl) ?_
  refine lv_iconst (v := (-1)) hx hb dX2_item_11 (by decide) ?_
  refine lv_icmp_eq (tgt := 41) hx hb dX2_item_12 (by decide) (fun c12 => ?_) (fun c12 => ?_)
  · have h := o_t c12 h
    refine lv_iload_n hx hb dX2_item_41 rfl (lv_at hl 1 rfl) ?_
    obtain ⟨z42, hz42, h⟩ := o_b h
    refine k_s (wn := (ws_X2_item cI cJ cB a0 a_bench a_waiting a_bytes a_sum a_sum_numbers length waits z1.2 opened parens great bytes sum_numbers)) (As := [.int z1.1]) (rest := []) F hNw hK hP hD hS hA (c_X2_digitOf l D cI cJ cB _ z1.1 N hz42) wm_694 cs_X2_digitOf [] [0, 1, 2, 3] [0, 1, 2, 3] (⟨rfl, rfl, rfl, by decide, rfl⟩ : Ix [] [0, 1, 2, 3] [0, 1, 2, 3] 4) rfl rfl rfl ⟨rfl, rfl, by decide, by decide⟩ hl.1 rfl (Nat.le_of_ble_eq_true rfl) ⟨Nat.zero_le _, Nat.zero_le _⟩ dX2_item_42 (fun H locs hP hD hS => ?_)
    refine lv_iconst (v := (-1)) hx hb dX2_item_45 (by decide) ?_
    refine lv_icmp_ne (tgt := 51) hx hb dX2_item_46 (by decide) (fun c46 => ?_) (fun c46 => ?_)
    · have h := o_f c46 h
      refine lv_aload_n hx hb dX2_item_51 rfl (lv_at hl 2 rfl) ?_
      obtain ⟨z52, hz52, h⟩ := o_b h
      refine k_v (wn := (ws_X2_item cI cJ cB a0 a_bench a_waiting a_bytes a_sum a_sum_numbers length waits z52.2 opened parens great bytes sum_numbers)) (As := []) (rest := []) F hNw hK hP hD hS hA (c_X2_wholeNumber l D cI cJ cB a0 a_bench a_sum a_waiting a_bytes _ length waits z1.2 opened parens great bytes N hz52) wm_697 cv_X2_wholeNumber [0, 1] [2, 3] [2, 3, 0, 1] (⟨rfl, rfl, rfl, by decide, rfl⟩ : Ix [0, 1] [2, 3] [2, 3, 0, 1] 4) rfl rfl rfl rfl rfl rfl ⟨rfl, rfl, by decide, by decide⟩ hl.1 rfl (Nat.le_of_ble_eq_true rfl) ⟨Nat.zero_le _, Nat.zero_le _⟩ dX2_item_52 (fun H locs hP hD hS => ?_)
      refine lv_istore (lv' := [(4, .int z52.1), (3, .int z6), (2, .int z1.1), (0, .ref a0), (1, .int x1)]) hx hb dX2_item_55 hl (by decide) rfl (fun ls hl => ?_)
      refine lv_aload_n hx hb dX2_item_57 rfl (lv_at hl 3 rfl) ?_
      refine lv_aload_n hx hb dX2_item_58 rfl (lv_at hl 3 rfl) ?_
      refine r_get F hK hP 0 6 rfl inW_X2 wm_173 rfl (by decide) rfl dX2_item_59 ?_
      obtain ⟨z62, hz62, h⟩ := o_b h
      refine k_v (wn := (ws_X2_item cI cJ cB a0 a_bench a_waiting a_bytes a_sum a_sum_numbers length waits z52.2 opened parens great bytes sum_numbers)) (As := [.int z52.2]) (rest := []) F hNw hK hP hD hS hA (c_X2_letterAt l D cI cJ cB a0 a_bench a_sum a_waiting a_bytes _ length waits z52.2 opened parens great bytes z52.2 N hz62) wm_642 cv_X2_letterAt [0, 1] [2, 3] [2, 3, 0, 1] (⟨rfl, rfl, rfl, by decide, rfl⟩ : Ix [0, 1] [2, 3] [2, 3, 0, 1] 4) rfl rfl rfl rfl rfl rfl ⟨rfl, rfl, by decide, by decide⟩ hl.1 rfl (Nat.le_of_ble_eq_true rfl) ⟨Nat.zero_le _, Nat.zero_le _⟩ dX2_item_62 (fun H locs hP hD hS => ?_)
      refine lv_bipush (v := 47) hx hb dX2_item_65 (by decide) ?_
      refine lv_icmp_ne (tgt := 77) hx hb dX2_item_67 (by decide) (fun c67 => ?_) (fun c67 => ?_)
      · have h := o_f c67 h
        refine lv_iconst (v := 1) hx hb dX2_item_77 (by decide) ?_
        exact w_X2_item_78 CX hK hsz z52.2 sum_numbers x1 z52.1 1 _ _ _ h hP hD hS (lv_sub hl [3, 4, 0] rfl)
      · have h := o_t c67 h
        refine lv_aload_n hx hb dX2_item_70 rfl (lv_at hl 3 rfl) ?_
        obtain ⟨z71, hz71, h⟩ := o_b h
        refine k_v (wn := (ws_X2_item cI cJ cB a0 a_bench a_waiting a_bytes a_sum a_sum_numbers length waits z71.2 opened parens great bytes sum_numbers)) (As := []) (rest := []) F hNw hK hP hD hS hA (c_X2_numberBelow l D cI cJ cB a0 a_bench a_sum a_waiting a_bytes _ length waits z52.2 opened parens great bytes N hz71) wm_701 cv_X2_numberBelow [0, 1] [2, 3] [2, 3, 0, 1] (⟨rfl, rfl, rfl, by decide, rfl⟩ : Ix [0, 1] [2, 3] [2, 3, 0, 1] 4) rfl rfl rfl rfl rfl rfl ⟨rfl, rfl, by decide, by decide⟩ hl.1 rfl (Nat.le_of_ble_eq_true rfl) ⟨Nat.zero_le _, Nat.zero_le _⟩ dX2_item_71 (fun H locs hP hD hS => ?_)
        refine lv_goto (tgt := 78) hx hb dX2_item_74 (by decide) ?_
        exact w_X2_item_78 CX hK hsz z71.2 sum_numbers x1 z52.1 z71.1 _ _ _ h hP hD hS (lv_sub hl [3, 4, 0] rfl)
    · have h := o_t c46 h
      refine lv_iconst (v := 0) hx hb dX2_item_49 (by decide) ?_
      obtain rfl := Option.some.inj h
      exact r_ret (v := 0) F hr hlk rfl dX2_item_50 hsz hP hD hS
  · have h := o_f c12 h
    refine lv_aload_n hx hb dX2_item_15 rfl (lv_at hl 2 rfl) ?_
    refine lv_dup hx hb dX2_item_16 rfl ?_
    refine r_get F hK hP 0 6 rfl inW_X2 wm_173 rfl (by decide) rfl dX2_item_17 ?_
    refine lv_iconst (v := 1) hx hb dX2_item_20 (by decide) ?_
    refine lv_iadd hx hb dX2_item_21 ?_
    refine r_put (wn := (ws_X2_item cI cJ cB a0 a_bench a_waiting a_bytes a_sum a_sum_numbers length waits (z1.2 + 1) opened parens great bytes sum_numbers)) F hK hP hD hS 0 6 rfl inW_X2 wm_173 tyX2_ok nmX2 rfl rfl (by decide) rfl rfl (Nat.le_of_ble_eq_true rfl) rfl dX2_item_22 (fun H locs hP hD hS => ?_)
    refine lv_aload_n hx hb dX2_item_25 rfl (lv_at hl 2 rfl) ?_
    refine r_get F hK hP 0 2 rfl inW_X2 wm_168 rfl (by decide) rfl dX2_item_26 ?_
    refine lv_iload_n hx hb dX2_item_29 rfl (lv_at hl 0 rfl) ?_
    refine lv_iload_n hx hb dX2_item_30 rfl (lv_at hl 3 rfl) ?_
    refine lv_i2l hx hb dX2_item_31 rfl ?_
    refine lv_ldc2 (v := 27720) hx hb hown (F.2.2.2.2 _ (q_in wm_689)) dX2_item_32 ?_
    refine lv_lmul hx hb dX2_item_35 ?_
    obtain ⟨z36, hz36, h⟩ := o_b h
    refine k_v (wn := (ws_X2_item cI cJ cB a0 a_bench a_waiting a_bytes a_sum a_sum_numbers length waits (z1.2 + 1) opened parens great bytes z36)) (As := [.int z6, .long (x1.toInt64 * 27720)]) (rest := []) F hNw hK hP hD hS hA (c_X4_add l D cI cJ cB a_sum a_sum_numbers _ sum_numbers z6 (x1.toInt64 * 27720) N hz36) wm_690 cv_X4_add [2, 3] [0, 1] [0, 1, 2, 3] (⟨rfl, rfl, rfl, by decide, rfl⟩ : Ix [2, 3] [0, 1] [0, 1, 2, 3] 4) rfl rfl rfl rfl rfl rfl ⟨rfl, rfl, by decide, by decide⟩ hl.1 rfl (Nat.le_of_ble_eq_true rfl) ⟨Nat.zero_le _, Nat.zero_le _⟩ dX2_item_36 (fun H locs hP hD hS => ?_)
    refine lv_iconst (v := 1) hx hb dX2_item_39 (by decide) ?_
    obtain rfl := Option.some.inj h
    exact r_ret (v := 1) F hr hlk rfl dX2_item_40 hsz hP hD hS
section G_X2_openings
abbrev ws_X2_openings (cI cJ cB : ClassId) (a0 a_bench a_sum a_bytes a_waiting : Nat) (length : Int32) (waits : Int32) (at_ : Int32) (opened : Int32) (parens : Int32) (great : Int32) (bytes : Nat → Int32) (waiting : Nat → Int32) : va_W := [(a0, .inr (4, [.ref a_bytes, .ref a_bench, .ref a_sum, .ref a_waiting, .int length, .int waits, .int at_, .int opened, .int parens, .int great])), (a_bytes, .inl (cB, 240, .inl bytes)), (a_waiting, .inl (cI, 240, .inl waiting))]
abbrev rm_X2_openings : Room := { frames := 3, cells := 0, slots := 0, locals := 64 }
def f_X2_openings_133 (K2 : Int32 → Int32 → Int32 → Int32 → Int32 → (Nat → Int32) → (Nat → Int32) → Int32 → Option (Int32 × (Int32) × (Int32) × (Int32) × (Int32) × (Nat → Int32))) (N : Nat) (length : Int32) (waits : Int32) (at_ : Int32) (opened : Int32) (parens : Int32) (bytes : Nat → Int32) (waiting : Nat → Int32) (y1 : Int32) : Option (Int32 × (Int32) × (Int32) × (Int32) × (Int32) × (Nat → Int32)) := K2 length waits at_ opened parens bytes waiting (y1 + 1)
def f_X2_openings_125 (K2 : Int32 → Int32 → Int32 → Int32 → Int32 → (Nat → Int32) → (Nat → Int32) → Int32 → Option (Int32 × (Int32) × (Int32) × (Int32) × (Int32) × (Nat → Int32))) (N : Nat) (length : Int32) (waits : Int32) (at_ : Int32) (opened : Int32) (parens : Int32) (bytes : Nat → Int32) (waiting : Nat → Int32) (y1 : Int32) (s1 : Int32) : Option (Int32 × (Int32) × (Int32) × (Int32) × (Int32) × (Nat → Int32)) := (f_X2_binder N length waits at_ bytes waiting s1).bind (fun z125 => ifb (z125.1 = 0) (some (0, z125.2.1, z125.2.2.1, opened, parens, z125.2.2.2)) (f_X2_openings_133 K2 N length z125.2.1 z125.2.2.1 opened parens bytes z125.2.2.2 y1))
def f_X2_openings_40 (K2 : Int32 → Int32 → Int32 → Int32 → Int32 → (Nat → Int32) → (Nat → Int32) → Int32 → Option (Int32 × (Int32) × (Int32) × (Int32) × (Int32) × (Nat → Int32))) (N : Nat) (length : Int32) (waits : Int32) (at_ : Int32) (opened : Int32) (parens : Int32) (bytes : Nat → Int32) (waiting : Nat → Int32) (y1 : Int32) (y2 : Int32) : Option (Int32 × (Int32) × (Int32) × (Int32) × (Int32) × (Nat → Int32)) := ifb (opened < 20) (ifb (y2 = 33) ((f_X2_await N waits waiting 12).bind (fun z80 => f_X2_openings_133 K2 N length z80.1 (at_ + 1) (opened + 1) parens bytes z80.2 y1)) (ifb (y2 = 40) ((f_X2_await N waits waiting 11).bind (fun z105 => f_X2_openings_133 K2 N length z105.1 (at_ + 1) (opened + 1) (parens + 1) bytes z105.2 y1)) (ifb (y2 = 69) (f_X2_openings_125 K2 N length waits (at_ + 1) (opened + 1) parens bytes waiting y1 8) (f_X2_openings_125 K2 N length waits (at_ + 1) (opened + 1) parens bytes waiting y1 9)))) (some (0, waits, at_, opened, parens, waiting))
def f_X2_openings_2 (N : Nat) : Nat → Int32 → Int32 → Int32 → Int32 → Int32 → (Nat → Int32) → (Nat → Int32) → Int32 → Option (Int32 × (Int32) × (Int32) × (Int32) × (Int32) × (Nat → Int32))
  | 0 => fun _ _ _ _ _ _ _ _ => none
  | n + 1 => fun length waits at_ opened parens bytes waiting y1 => ifb (240 < y1) (some (0, waits, at_, opened, parens, waiting)) ((f_X2_nextLetter N length at_ bytes).bind (fun z10 => ifb (z10.1 = 33) (f_X2_openings_40 (f_X2_openings_2 N n) N length waits z10.2 opened parens bytes waiting y1 z10.1) (ifb (z10.1 = 69) (f_X2_openings_40 (f_X2_openings_2 N n) N length waits z10.2 opened parens bytes waiting y1 z10.1) (ifb (z10.1 = 65) (f_X2_openings_40 (f_X2_openings_2 N n) N length waits z10.2 opened parens bytes waiting y1 z10.1) (ifb (z10.1 = 40) (f_X2_openings_40 (f_X2_openings_2 N n) N length waits z10.2 opened parens bytes waiting y1 z10.1) (some (1, waits, z10.2, opened, parens, waiting)))))))
def f_X2_openings (N : Nat) (length : Int32) (waits : Int32) (at_ : Int32) (opened : Int32) (parens : Int32) (bytes : Nat → Int32) (waiting : Nat → Int32) : Option (Int32 × (Int32) × (Int32) × (Int32) × (Int32) × (Nat → Int32)) := f_X2_openings_2 N N length waits at_ opened parens bytes waiting 0
variable {p : Program} {l : Launch} {e : Env} {s : State} {m : MethodId} {below : List Frame} {meth : Method} {c : Code} {args : Array Value} {x0 : Cond} {D : va_G} {cI cJ cB : ClassId} {sz N : Nat} {ws0 : va_W} {a0 a_bench a_sum a_bytes a_waiting : Nat} {length : Int32} {great : Int32} {bytes : Nat → Int32} {z : Int32 × (Int32) × (Int32) × (Int32) × (Int32) × (Nat → Int32)}
set_option maxHeartbeats 4000000 in
set_option maxRecDepth 100000 in
theorem w_X2_openings_133 (CX : Cx p m c cX2_openings 3 s args x0 RX2 meth (some .boolean)) (hK : va_K D vwCl (ty0 cI cJ cB) s) (hsz : s.heap.size = sz) {K2 : Int32 → Int32 → Int32 → Int32 → Int32 → (Nat → Int32) → (Nat → Int32) → Int32 → Option (Int32 × (Int32) × (Int32) × (Int32) × (Int32) × (Nat → Int32))} (hK2 : ∀ (waits : Int32) (at_ : Int32) (opened : Int32) (parens : Int32) (waiting : Nat → Int32) (y1 : Int32) (H : Heap) (locs : List Loc) (ls : Array Slot), K2 length waits at_ opened parens bytes waiting y1 = some z → va_P D vwCl (ws_X2_openings cI cJ cB a0 a_bench a_sum a_bytes a_waiting length waits at_ opened parens great bytes waiting) H → va_D (va_A ws0 sz) (ws_X2_openings cI cJ cB a0 a_bench a_sum a_bytes a_waiting length waits at_ opened parens great bytes waiting) → va_S (va_A ws0 sz) s.heap H locs → lv_has ls 3 [(0, .ref a0), (1, .int y1)] → W p l e rm_X2_openings s m args below meth c H locs 0 0 (MQ below (gQ D sz ws0 (ws_X2_openings cI cJ cB a0 a_bench a_sum a_bytes a_waiting length z.2.1 z.2.2.1 z.2.2.2.1 z.2.2.2.2.1 great bytes z.2.2.2.2.2) (some (.int z.1))) args s 0 0 (va_A ws0 sz)) (F0 m 2 ls [])) : ∀ (waits : Int32) (at_ : Int32) (opened : Int32) (parens : Int32) (waiting : Nat → Int32) (y1 : Int32) (H : Heap) (locs : List Loc) (ls : Array Slot), f_X2_openings_133 K2 N length waits at_ opened parens bytes waiting y1 = some z → va_P D vwCl (ws_X2_openings cI cJ cB a0 a_bench a_sum a_bytes a_waiting length waits at_ opened parens great bytes waiting) H → va_D (va_A ws0 sz) (ws_X2_openings cI cJ cB a0 a_bench a_sum a_bytes a_waiting length waits at_ opened parens great bytes waiting) → va_S (va_A ws0 sz) s.heap H locs → lv_has ls 3 [(0, .ref a0), (1, .int y1)] → W p l e rm_X2_openings s m args below meth c H locs 0 0 (MQ below (gQ D sz ws0 (ws_X2_openings cI cJ cB a0 a_bench a_sum a_bytes a_waiting length z.2.1 z.2.2.1 z.2.2.2.1 z.2.2.2.2.1 great bytes z.2.2.2.2.2) (some (.int z.1))) args s 0 0 (va_A ws0 sz)) (F0 m 133 ls []) := by
  obtain ⟨F, hr, hlk, hNw⟩ := id CX
  have hx := F.1
  have hb := F.2.1
  have hown := F.2.2.2.1
  have hA : ∀ q, s.heap.size ≤ q → va_A ws0 sz q := fun q hq => Or.inr (hsz ▸ hq)
  intro waits at_ opened parens waiting y1 H locs ls h hP hD hS hl
  unfold f_X2_openings_133 at h
  refine lv_iinc (v := y1 + 1) (lv' := [(1, .int (y1 + 1)), (0, .ref a0)]) hx hb dX2_openings_133 hl (k := 1) rfl rfl (by decide) rfl (fun ls hl => ?_)
  refine lv_goto (tgt := 2) hx hb dX2_openings_136 (by decide) ?_
  exact hK2 waits at_ opened parens waiting (y1 + 1) _ _ _ h hP hD hS (lv_sub hl [1, 0] rfl)
set_option maxHeartbeats 4000000 in
set_option maxRecDepth 100000 in
theorem w_X2_openings_125 (CX : Cx p m c cX2_openings 3 s args x0 RX2 meth (some .boolean)) (hK : va_K D vwCl (ty0 cI cJ cB) s) (hsz : s.heap.size = sz) {K2 : Int32 → Int32 → Int32 → Int32 → Int32 → (Nat → Int32) → (Nat → Int32) → Int32 → Option (Int32 × (Int32) × (Int32) × (Int32) × (Int32) × (Nat → Int32))} (hK2 : ∀ (waits : Int32) (at_ : Int32) (opened : Int32) (parens : Int32) (waiting : Nat → Int32) (y1 : Int32) (H : Heap) (locs : List Loc) (ls : Array Slot), K2 length waits at_ opened parens bytes waiting y1 = some z → va_P D vwCl (ws_X2_openings cI cJ cB a0 a_bench a_sum a_bytes a_waiting length waits at_ opened parens great bytes waiting) H → va_D (va_A ws0 sz) (ws_X2_openings cI cJ cB a0 a_bench a_sum a_bytes a_waiting length waits at_ opened parens great bytes waiting) → va_S (va_A ws0 sz) s.heap H locs → lv_has ls 3 [(0, .ref a0), (1, .int y1)] → W p l e rm_X2_openings s m args below meth c H locs 0 0 (MQ below (gQ D sz ws0 (ws_X2_openings cI cJ cB a0 a_bench a_sum a_bytes a_waiting length z.2.1 z.2.2.1 z.2.2.2.1 z.2.2.2.2.1 great bytes z.2.2.2.2.2) (some (.int z.1))) args s 0 0 (va_A ws0 sz)) (F0 m 2 ls [])) : ∀ (waits : Int32) (at_ : Int32) (opened : Int32) (parens : Int32) (waiting : Nat → Int32) (y1 : Int32) (s1 : Int32) (H : Heap) (locs : List Loc) (ls : Array Slot), f_X2_openings_125 K2 N length waits at_ opened parens bytes waiting y1 s1 = some z → va_P D vwCl (ws_X2_openings cI cJ cB a0 a_bench a_sum a_bytes a_waiting length waits at_ opened parens great bytes waiting) H → va_D (va_A ws0 sz) (ws_X2_openings cI cJ cB a0 a_bench a_sum a_bytes a_waiting length waits at_ opened parens great bytes waiting) → va_S (va_A ws0 sz) s.heap H locs → lv_has ls 3 [(0, .ref a0), (1, .int y1)] → W p l e rm_X2_openings s m args below meth c H locs 0 0 (MQ below (gQ D sz ws0 (ws_X2_openings cI cJ cB a0 a_bench a_sum a_bytes a_waiting length z.2.1 z.2.2.1 z.2.2.2.1 z.2.2.2.2.1 great bytes z.2.2.2.2.2) (some (.int z.1))) args s 0 0 (va_A ws0 sz)) (F0 m 125 ls [.int s1, .ref a0]) := by
  obtain ⟨F, hr, hlk, hNw⟩ := id CX
  have hx := F.1
  have hb := F.2.1
  have hown := F.2.2.2.1
  have hA : ∀ q, s.heap.size ≤ q → va_A ws0 sz q := fun q hq => Or.inr (hsz ▸ hq)
  intro waits at_ opened parens waiting y1 s1 H locs ls h hP hD hS hl
  unfold f_X2_openings_125 at h
  obtain ⟨z125, hz125, h⟩ := o_b h
  refine k_v (wn := (ws_X2_openings cI cJ cB a0 a_bench a_sum a_bytes a_waiting length z125.2.1 z125.2.2.1 opened parens great bytes z125.2.2.2)) (As := [.int s1]) (rest := []) F hNw hK hP hD hS hA (c_X2_binder l D cI cJ cB a0 a_bench a_sum a_bytes a_waiting _ length waits at_ opened parens great bytes waiting s1 N hz125) wm_650 cv_X2_binder [0, 1, 2] [] [0, 1, 2] (⟨rfl, rfl, rfl, by decide, rfl⟩ : Ix [0, 1, 2] [] [0, 1, 2] 3) rfl rfl rfl rfl rfl rfl ⟨rfl, rfl, by decide, by decide⟩ hl.1 rfl (Nat.le_of_ble_eq_true rfl) ⟨Nat.zero_le _, Nat.zero_le _⟩ dX2_openings_125 (fun H locs hP hD hS => ?_)
  refine lv_if_ne (tgt := 133) hx hb dX2_openings_128 (by decide) (fun c128 => ?_) (fun c128 => ?_)
  · have h := o_f c128 h
    exact w_X2_openings_133 CX hK hsz (hK2 := hK2) z125.2.1 z125.2.2.1 opened parens z125.2.2.2 y1 _ _ _ h hP hD hS (lv_sub hl [0, 1] rfl)
  · have h := o_t c128 h
    refine lv_iconst (v := 0) hx hb dX2_openings_131 (by decide) ?_
    obtain rfl := Option.some.inj h
    exact r_ret (v := 0) F hr hlk rfl dX2_openings_132 hsz hP hD hS
set_option maxHeartbeats 4000000 in
set_option maxRecDepth 100000 in
theorem w_X2_openings_40 (CX : Cx p m c cX2_openings 3 s args x0 RX2 meth (some .boolean)) (hK : va_K D vwCl (ty0 cI cJ cB) s) (hsz : s.heap.size = sz) {K2 : Int32 → Int32 → Int32 → Int32 → Int32 → (Nat → Int32) → (Nat → Int32) → Int32 → Option (Int32 × (Int32) × (Int32) × (Int32) × (Int32) × (Nat → Int32))} (hK2 : ∀ (waits : Int32) (at_ : Int32) (opened : Int32) (parens : Int32) (waiting : Nat → Int32) (y1 : Int32) (H : Heap) (locs : List Loc) (ls : Array Slot), K2 length waits at_ opened parens bytes waiting y1 = some z → va_P D vwCl (ws_X2_openings cI cJ cB a0 a_bench a_sum a_bytes a_waiting length waits at_ opened parens great bytes waiting) H → va_D (va_A ws0 sz) (ws_X2_openings cI cJ cB a0 a_bench a_sum a_bytes a_waiting length waits at_ opened parens great bytes waiting) → va_S (va_A ws0 sz) s.heap H locs → lv_has ls 3 [(0, .ref a0), (1, .int y1)] → W p l e rm_X2_openings s m args below meth c H locs 0 0 (MQ below (gQ D sz ws0 (ws_X2_openings cI cJ cB a0 a_bench a_sum a_bytes a_waiting length z.2.1 z.2.2.1 z.2.2.2.1 z.2.2.2.2.1 great bytes z.2.2.2.2.2) (some (.int z.1))) args s 0 0 (va_A ws0 sz)) (F0 m 2 ls [])) : ∀ (waits : Int32) (at_ : Int32) (opened : Int32) (parens : Int32) (waiting : Nat → Int32) (y1 : Int32) (y2 : Int32) (H : Heap) (locs : List Loc) (ls : Array Slot), f_X2_openings_40 K2 N length waits at_ opened parens bytes waiting y1 y2 = some z → va_P D vwCl (ws_X2_openings cI cJ cB a0 a_bench a_sum a_bytes a_waiting length waits at_ opened parens great bytes waiting) H → va_D (va_A ws0 sz) (ws_X2_openings cI cJ cB a0 a_bench a_sum a_bytes a_waiting length waits at_ opened parens great bytes waiting) → va_S (va_A ws0 sz) s.heap H locs → lv_has ls 3 [(0, .ref a0), (1, .int y1), (2, .int y2)] → W p l e rm_X2_openings s m args below meth c H locs 0 0 (MQ below (gQ D sz ws0 (ws_X2_openings cI cJ cB a0 a_bench a_sum a_bytes a_waiting length z.2.1 z.2.2.1 z.2.2.2.1 z.2.2.2.2.1 great bytes z.2.2.2.2.2) (some (.int z.1))) args s 0 0 (va_A ws0 sz)) (F0 m 40 ls []) := by
  obtain ⟨F, hr, hlk, hNw⟩ := id CX
  have hx := F.1
  have hb := F.2.1
  have hown := F.2.2.2.1
  have hA : ∀ q, s.heap.size ≤ q → va_A ws0 sz q := fun q hq => Or.inr (hsz ▸ hq)
  intro waits at_ opened parens waiting y1 y2 H locs ls h hP hD hS hl
  unfold f_X2_openings_40 at h
  refine lv_aload_n hx hb dX2_openings_40 rfl (lv_at hl 0 rfl) ?_
  refine r_get F hK hP 0 7 rfl inW_X2 wm_174 rfl (by decide) rfl dX2_openings_41 ?_
  refine lv_bipush (v := 20) hx hb dX2_openings_44 (by decide) ?_
  refine lv_icmp_lt (tgt := 51) hx hb dX2_openings_46 (by decide) (fun c46 => ?_) (fun c46 => ?_)
  · have h := o_t c46 h
    refine lv_aload_n hx hb dX2_openings_51 rfl (lv_at hl 0 rfl) ?_
    refine lv_dup hx hb dX2_openings_52 rfl ?_
    refine r_get F hK hP 0 7 rfl inW_X2 wm_174 rfl (by decide) rfl dX2_openings_53 ?_
    refine lv_iconst (v := 1) hx hb dX2_openings_56 (by decide) ?_
    refine lv_iadd hx hb dX2_openings_57 ?_
    refine r_put (wn := (ws_X2_openings cI cJ cB a0 a_bench a_sum a_bytes a_waiting length waits at_ (opened + 1) parens great bytes waiting)) F hK hP hD hS 0 7 rfl inW_X2 wm_174 tyX2_ok nmX2 rfl rfl (by decide) rfl rfl (Nat.le_of_ble_eq_true rfl) rfl dX2_openings_58 (fun H locs hP hD hS => ?_)
    refine lv_aload_n hx hb dX2_openings_61 rfl (lv_at hl 0 rfl) ?_
    refine lv_dup hx hb dX2_openings_62 rfl ?_
    refine r_get F hK hP 0 6 rfl inW_X2 wm_173 rfl (by decide) rfl dX2_openings_63 ?_
    refine lv_iconst (v := 1) hx hb dX2_openings_66 (by decide) ?_
    refine lv_iadd hx hb dX2_openings_67 ?_
    refine r_put (wn := (ws_X2_openings cI cJ cB a0 a_bench a_sum a_bytes a_waiting length waits (at_ + 1) (opened + 1) parens great bytes waiting)) F hK hP hD hS 0 6 rfl inW_X2 wm_173 tyX2_ok nmX2 rfl rfl (by decide) rfl rfl (Nat.le_of_ble_eq_true rfl) rfl dX2_openings_68 (fun H locs hP hD hS => ?_)
    refine lv_iload_n hx hb dX2_openings_71 rfl (lv_at hl 2 rfl) ?_
    refine lv_bipush (v := 33) hx hb dX2_openings_72 (by decide) ?_
    refine lv_icmp_ne (tgt := 86) hx hb dX2_openings_74 (by decide) (fun c74 => ?_) (fun c74 => ?_)
    · have h := o_f c74 h
      refine lv_iload_n hx hb dX2_openings_86 rfl (lv_at hl 2 rfl) ?_
      refine lv_bipush (v := 40) hx hb dX2_openings_87 (by decide) ?_
      refine lv_icmp_ne (tgt := 111) hx hb dX2_openings_89 (by decide) (fun c89 => ?_) (fun c89 => ?_)
      · have h := o_f c89 h
        refine lv_aload_n hx hb dX2_openings_111 rfl (lv_at hl 0 rfl) ?_
        refine lv_iload_n hx hb dX2_openings_112 rfl (lv_at hl 2 rfl) ?_
        refine lv_bipush (v := 69) hx hb dX2_openings_113 (by decide) ?_
        refine lv_icmp_ne (tgt := 123) hx hb dX2_openings_115 (by decide) (fun c115 => ?_) (fun c115 => ?_)
        · have h := o_f c115 h
          refine lv_bipush (v := 9) hx hb dX2_openings_123 (by decide) ?_
          exact w_X2_openings_125 CX hK hsz (hK2 := hK2) waits (at_ + 1) (opened + 1) parens waiting y1 9 _ _ _ h hP hD hS (lv_sub hl [0, 1] rfl)
        · have h := o_t c115 h
          refine lv_bipush (v := 8) hx hb dX2_openings_118 (by decide) ?_
          refine lv_goto (tgt := 125) hx hb dX2_openings_120 (by decide) ?_
          exact w_X2_openings_125 CX hK hsz (hK2 := hK2) waits (at_ + 1) (opened + 1) parens waiting y1 8 _ _ _ h hP hD hS (lv_sub hl [0, 1] rfl)
      · have h := o_t c89 h
        refine lv_aload_n hx hb dX2_openings_92 rfl (lv_at hl 0 rfl) ?_
        refine lv_dup hx hb dX2_openings_93 rfl ?_
        refine r_get F hK hP 0 8 rfl inW_X2 wm_175 rfl (by decide) rfl dX2_openings_94 ?_
        refine lv_iconst (v := 1) hx hb dX2_openings_97 (by decide) ?_
        refine lv_iadd hx hb dX2_openings_98 ?_
        refine r_put (wn := (ws_X2_openings cI cJ cB a0 a_bench a_sum a_bytes a_waiting length waits (at_ + 1) (opened + 1) (parens + 1) great bytes waiting)) F hK hP hD hS 0 8 rfl inW_X2 wm_175 tyX2_ok nmX2 rfl rfl (by decide) rfl rfl (Nat.le_of_ble_eq_true rfl) rfl dX2_openings_99 (fun H locs hP hD hS => ?_)
        refine lv_aload_n hx hb dX2_openings_102 rfl (lv_at hl 0 rfl) ?_
        refine lv_bipush (v := 11) hx hb dX2_openings_103 (by decide) ?_
        obtain ⟨z105, hz105, h⟩ := o_b h
        refine k_v (wn := (ws_X2_openings cI cJ cB a0 a_bench a_sum a_bytes a_waiting length z105.1 (at_ + 1) (opened + 1) (parens + 1) great bytes z105.2)) (As := [.int 11]) (rest := []) F hNw hK hP hD hS hA (c_X2_await l D cI cJ cB a0 a_bytes a_bench a_sum a_waiting _ length waits (at_ + 1) (opened + 1) (parens + 1) great waiting 11 N hz105) wm_646 cv_X2_await [0, 2] [1] [1, 0, 2] (⟨rfl, rfl, rfl, by decide, rfl⟩ : Ix [0, 2] [1] [1, 0, 2] 3) rfl rfl rfl rfl rfl rfl ⟨rfl, rfl, by decide, by decide⟩ hl.1 rfl (Nat.le_of_ble_eq_true rfl) ⟨Nat.zero_le _, Nat.zero_le _⟩ dX2_openings_105 (fun H locs hP hD hS => ?_)
        refine lv_goto (tgt := 133) hx hb dX2_openings_108 (by decide) ?_
        exact w_X2_openings_133 CX hK hsz (hK2 := hK2) z105.1 (at_ + 1) (opened + 1) (parens + 1) z105.2 y1 _ _ _ h hP hD hS (lv_sub hl [0, 1] rfl)
    · have h := o_t c74 h
      refine lv_aload_n hx hb dX2_openings_77 rfl (lv_at hl 0 rfl) ?_
      refine lv_bipush (v := 12) hx hb dX2_openings_78 (by decide) ?_
      obtain ⟨z80, hz80, h⟩ := o_b h
      refine k_v (wn := (ws_X2_openings cI cJ cB a0 a_bench a_sum a_bytes a_waiting length z80.1 (at_ + 1) (opened + 1) parens great bytes z80.2)) (As := [.int 12]) (rest := []) F hNw hK hP hD hS hA (c_X2_await l D cI cJ cB a0 a_bytes a_bench a_sum a_waiting _ length waits (at_ + 1) (opened + 1) parens great waiting 12 N hz80) wm_646 cv_X2_await [0, 2] [1] [1, 0, 2] (⟨rfl, rfl, rfl, by decide, rfl⟩ : Ix [0, 2] [1] [1, 0, 2] 3) rfl rfl rfl rfl rfl rfl ⟨rfl, rfl, by decide, by decide⟩ hl.1 rfl (Nat.le_of_ble_eq_true rfl) ⟨Nat.zero_le _, Nat.zero_le _⟩ dX2_openings_80 (fun H locs hP hD hS => ?_)
      refine lv_goto (tgt := 133) hx hb dX2_openings_83 (by decide) ?_
      exact w_X2_openings_133 CX hK hsz (hK2 := hK2) z80.1 (at_ + 1) (opened + 1) parens z80.2 y1 _ _ _ h hP hD hS (lv_sub hl [0, 1] rfl)
  · have h := o_f c46 h
    refine lv_iconst (v := 0) hx hb dX2_openings_49 (by decide) ?_
    obtain rfl := Option.some.inj h
    exact r_ret (v := 0) F hr hlk rfl dX2_openings_50 hsz hP hD hS
set_option maxHeartbeats 4000000 in
set_option maxRecDepth 100000 in
theorem w_X2_openings_2 (CX : Cx p m c cX2_openings 3 s args x0 RX2 meth (some .boolean)) (hK : va_K D vwCl (ty0 cI cJ cB) s) (hsz : s.heap.size = sz) : ∀ (n : Nat), ∀ (waits : Int32) (at_ : Int32) (opened : Int32) (parens : Int32) (waiting : Nat → Int32) (y1 : Int32) (H : Heap) (locs : List Loc) (ls : Array Slot), f_X2_openings_2 N n length waits at_ opened parens bytes waiting y1 = some z → va_P D vwCl (ws_X2_openings cI cJ cB a0 a_bench a_sum a_bytes a_waiting length waits at_ opened parens great bytes waiting) H → va_D (va_A ws0 sz) (ws_X2_openings cI cJ cB a0 a_bench a_sum a_bytes a_waiting length waits at_ opened parens great bytes waiting) → va_S (va_A ws0 sz) s.heap H locs → lv_has ls 3 [(0, .ref a0), (1, .int y1)] → W p l e rm_X2_openings s m args below meth c H locs 0 0 (MQ below (gQ D sz ws0 (ws_X2_openings cI cJ cB a0 a_bench a_sum a_bytes a_waiting length z.2.1 z.2.2.1 z.2.2.2.1 z.2.2.2.2.1 great bytes z.2.2.2.2.2) (some (.int z.1))) args s 0 0 (va_A ws0 sz)) (F0 m 2 ls []) := by
  obtain ⟨F, hr, hlk, hNw⟩ := id CX
  have hx := F.1
  have hb := F.2.1
  have hown := F.2.2.2.1
  have hA : ∀ q, s.heap.size ≤ q → va_A ws0 sz q := fun q hq => Or.inr (hsz ▸ hq)
  intro n
  induction n with
  | zero =>
    intro waits at_ opened parens waiting y1 H locs ls h
    cases h
  | succ n ih =>
    intro waits at_ opened parens waiting y1 H locs ls h hP hD hS hl
    unfold f_X2_openings_2 at h
    refine lv_iload_n hx hb dX2_openings_2 rfl (lv_at hl 1 rfl) ?_
    refine lv_sipush (v := 240) hx hb dX2_openings_3 (by decide) ?_
    refine lv_icmp_gt (tgt := 139) hx hb dX2_openings_6 (by decide) (fun c6 => ?_) (fun c6 => ?_)
    · have h := o_t c6 h
      refine lv_iconst (v := 0) hx hb dX2_openings_139 (by decide) ?_
      obtain rfl := Option.some.inj h
      exact r_ret (v := 0) F hr hlk rfl dX2_openings_140 hsz hP hD hS
    · have h := o_f c6 h
      refine lv_aload_n hx hb dX2_openings_9 rfl (lv_at hl 0 rfl) ?_
      obtain ⟨z10, hz10, h⟩ := o_b h
      refine k_v (wn := (ws_X2_openings cI cJ cB a0 a_bench a_sum a_bytes a_waiting length waits z10.2 opened parens great bytes waiting)) (As := []) (rest := []) F hNw hK hP hD hS hA (c_X2_nextLetter l D cI cJ cB a0 a_bench a_sum a_waiting a_bytes _ length waits at_ opened parens great bytes N hz10) wm_638 cv_X2_nextLetter [0, 1] [2] [1, 2, 0] (⟨rfl, rfl, rfl, by decide, rfl⟩ : Ix [0, 1] [2] [1, 2, 0] 3) rfl rfl rfl rfl rfl rfl ⟨rfl, rfl, by decide, by decide⟩ hl.1 rfl (Nat.le_of_ble_eq_true rfl) ⟨Nat.zero_le _, Nat.zero_le _⟩ dX2_openings_10 (fun H locs hP hD hS => ?_)
      refine lv_istore_n (lv' := [(2, .int z10.1), (0, .ref a0), (1, .int y1)]) hx hb dX2_openings_13 rfl hl (by decide) rfl (fun ls hl => ?_)
      refine lv_iload_n hx hb dX2_openings_14 rfl (lv_at hl 0 rfl) ?_
      refine lv_bipush (v := 33) hx hb dX2_openings_15 (by decide) ?_
      refine lv_icmp_eq (tgt := 40) hx hb dX2_openings_17 (by decide) (fun c17 => ?_) (fun c17 => ?_)
      · have h := o_t c17 h
        exact w_X2_openings_40 CX hK hsz (hK2 := ih) waits z10.2 opened parens waiting y1 z10.1 _ _ _ h hP hD hS (lv_sub hl [1, 2, 0] rfl)
      · have h := o_f c17 h
        refine lv_iload_n hx hb dX2_openings_20 rfl (lv_at hl 0 rfl) ?_
        refine lv_bipush (v := 69) hx hb dX2_openings_21 (by decide) ?_
        refine lv_icmp_eq (tgt := 40) hx hb dX2_openings_23 (by decide) (fun c23 => ?_) (fun c23 => ?_)
        · have h := o_t c23 h
          exact w_X2_openings_40 CX hK hsz (hK2 := ih) waits z10.2 opened parens waiting y1 z10.1 _ _ _ h hP hD hS (lv_sub hl [1, 2, 0] rfl)
        · have h := o_f c23 h
          refine lv_iload_n hx hb dX2_openings_26 rfl (lv_at hl 0 rfl) ?_
          refine lv_bipush (v := 65) hx hb dX2_openings_27 (by decide) ?_
          refine lv_icmp_eq (tgt := 40) hx hb dX2_openings_29 (by decide) (fun c29 => ?_) (fun c29 => ?_)
          · have h := o_t c29 h
            exact w_X2_openings_40 CX hK hsz (hK2 := ih) waits z10.2 opened parens waiting y1 z10.1 _ _ _ h hP hD hS (lv_sub hl [1, 2, 0] rfl)
          · have h := o_f c29 h
            refine lv_iload_n hx hb dX2_openings_32 rfl (lv_at hl 0 rfl) ?_
            refine lv_bipush (v := 40) hx hb dX2_openings_33 (by decide) ?_
            refine lv_icmp_eq (tgt := 40) hx hb dX2_openings_35 (by decide) (fun c35 => ?_) (fun c35 => ?_)
            · have h := o_t c35 h
              exact w_X2_openings_40 CX hK hsz (hK2 := ih) waits z10.2 opened parens waiting y1 z10.1 _ _ _ h hP hD hS (lv_sub hl [1, 2, 0] rfl)
            · have h := o_f c35 h
              refine lv_iconst (v := 1) hx hb dX2_openings_38 (by decide) ?_
              obtain rfl := Option.some.inj h
              exact r_ret (v := 1) F hr hlk rfl dX2_openings_39 hsz hP hD hS
end G_X2_openings
set_option maxHeartbeats 4000000 in
set_option maxRecDepth 100000 in
theorem c_X2_openings (l : Launch) (D : va_G) (cI cJ cB : ClassId) (a0 a_bench a_sum a_bytes a_waiting : Nat) (sz : Nat) (length : Int32) (waits : Int32) (at_ : Int32) (opened : Int32) (parens : Int32) (great : Int32) (bytes : Nat → Int32) (waiting : Nat → Int32) (N : Nat) {z : Int32 × (Int32) × (Int32) × (Int32) × (Int32) × (Nat → Int32)} (h : f_X2_openings N length waits at_ opened parens bytes waiting = some z) : Mg l yX2_openings cX2_openings 3 (some .boolean) rm_X2_openings D (ty0 cI cJ cB) [.ref a0] sz (ws_X2_openings cI cJ cB a0 a_bench a_sum a_bytes a_waiting length waits at_ opened parens great bytes waiting) (some (.int z.1)) (ws_X2_openings cI cJ cB a0 a_bench a_sum a_bytes a_waiting length z.2.1 z.2.2.1 z.2.2.2.1 z.2.2.2.2.1 great bytes z.2.2.2.2.2) := by
  refine Mg.of (by decide) (Nat.le_of_ble_eq_true rfl) ?_
  intro p e s m below meth c CX hK hsz hP hD ls hl
  have CX : Cx p m c cX2_openings 3 s ([.ref a0] : List Value).toArray (Cond.code yX2_openings cX2_openings 3 (some .boolean)) RX2 meth (some .boolean) := CX
  obtain ⟨F, hr, hlk, hNw⟩ := id CX
  have hx := F.1
  have hb := F.2.1
  have hown := F.2.2.2.1
  have hl : lv_has ls 3 [(0, .ref a0)] := hl
  have hS : va_S (va_A (ws_X2_openings cI cJ cB a0 a_bench a_sum a_bytes a_waiting length waits at_ opened parens great bytes waiting) sz) s.heap s.heap [] := va_S.rf
  have hA : ∀ q, s.heap.size ≤ q → va_A (ws_X2_openings cI cJ cB a0 a_bench a_sum a_bytes a_waiting length waits at_ opened parens great bytes waiting) sz q := fun q hq => Or.inr (hsz ▸ hq)
  unfold f_X2_openings at h
  refine lv_iconst (v := 0) hx hb dX2_openings_0 (by decide) ?_
  refine lv_istore_n (lv' := [(1, .int 0), (0, .ref a0)]) hx hb dX2_openings_1 rfl hl (by decide) rfl (fun ls hl => ?_)
  exact w_X2_openings_2 CX hK hsz N waits at_ opened parens waiting 0 _ _ _ h hP hD hS (lv_sub hl [1, 0] rfl)
section G_X2_side
abbrev ws_X2_side (cI cJ cB : ClassId) (a0 a_bench a_waiting a_bytes a_sum a_sum_numbers : Nat) (length : Int32) (waits : Int32) (at_ : Int32) (opened : Int32) (parens : Int32) (great : Int32) (bytes : Nat → Int32) (sum_numbers : Nat → Int64) : va_W := [(a0, .inr (4, [.ref a_bytes, .ref a_bench, .ref a_sum, .ref a_waiting, .int length, .int waits, .int at_, .int opened, .int parens, .int great])), (a_bytes, .inl (cB, 240, .inl bytes)), (a_sum, .inr (6, [.ref a_sum_numbers])), (a_sum_numbers, .inl (cJ, 9, .inr (.inl sum_numbers)))]
abbrev rm_X2_side : Room := { frames := 3, cells := 0, slots := 0, locals := 69 }
def f_X2_side_94 (N : Nat) (length : Int32) (at_ : Int32) (bytes : Nat → Int32) (sum_numbers : Nat → Int64) : Option (Int32 × (Int32) × (Nat → Int64)) := some (1, at_, sum_numbers)
def f_X2_side_109 (K26 : Int32 → Int32 → (Nat → Int32) → (Nat → Int64) → Int32 → Int32 → Int32 → Option (Int32 × (Int32) × (Nat → Int64))) (N : Nat) (length : Int32) (at_ : Int32) (bytes : Nat → Int32) (sum_numbers : Nat → Int64) (y1 : Int32) (y3 : Int32) (s0 : Int32) : Option (Int32 × (Int32) × (Nat → Int64)) := K26 length (at_ + 1) bytes sum_numbers y1 s0 (y3 + 1)
def f_X2_side_96 (K26 : Int32 → Int32 → (Nat → Int32) → (Nat → Int64) → Int32 → Int32 → Int32 → Option (Int32 × (Int32) × (Nat → Int64))) (N : Nat) (length : Int32) (at_ : Int32) (bytes : Nat → Int32) (sum_numbers : Nat → Int64) (y1 : Int32) (y3 : Int32) (y4 : Int32) : Option (Int32 × (Int32) × (Nat → Int64)) := ifb (y4 = 43) (f_X2_side_109 K26 N length at_ bytes sum_numbers y1 y3 y1) (f_X2_side_109 K26 N length at_ bytes sum_numbers y1 y3 (-y1))
def f_X2_side_73 (K26 : Int32 → Int32 → (Nat → Int32) → (Nat → Int64) → Int32 → Int32 → Int32 → Option (Int32 × (Int32) × (Nat → Int64))) (N : Nat) (length : Int32) (at_ : Int32) (bytes : Nat → Int32) (sum_numbers : Nat → Int64) (y1 : Int32) (y3 : Int32) (y4 : Int32) (s0 : Int32) : Option (Int32 × (Int32) × (Nat → Int64)) := ifb (y4 = 43) (f_X2_side_96 K26 N length at_ bytes sum_numbers y1 y3 y4) (ifb (y4 = 45) (ifb (s0 = 0) (f_X2_side_96 K26 N length at_ bytes sum_numbers y1 y3 y4) (f_X2_side_94 N length at_ bytes sum_numbers)) (f_X2_side_94 N length at_ bytes sum_numbers))
def f_X2_side_72 (K26 : Int32 → Int32 → (Nat → Int32) → (Nat → Int64) → Int32 → Int32 → Int32 → Option (Int32 × (Int32) × (Nat → Int64))) (N : Nat) (length : Int32) (at_ : Int32) (bytes : Nat → Int32) (sum_numbers : Nat → Int64) (y1 : Int32) (y3 : Int32) (y4 : Int32) : Option (Int32 × (Int32) × (Nat → Int64)) := f_X2_side_73 K26 N length at_ bytes sum_numbers y1 y3 y4 0
def f_X2_side_26 (N : Nat) : Nat → Int32 → Int32 → (Nat → Int32) → (Nat → Int64) → Int32 → Int32 → Int32 → Option (Int32 × (Int32) × (Nat → Int64))
  | 0 => fun _ _ _ _ _ _ _ => none
  | n + 1 => fun length at_ bytes sum_numbers y1 y2 y3 => ifb (240 < y3) (some (0, at_, sum_numbers)) ((f_X2_item N length at_ bytes sum_numbers y2).bind (fun z35 => ifb (z35.1 = 0) (some (0, z35.2.1, z35.2.2)) ((f_X2_nextLetter N length z35.2.1 bytes).bind (fun z44 => ifb (0 ≤ y1) (f_X2_side_72 (f_X2_side_26 N n) N length z44.2 bytes z35.2.2 y1 y3 z44.1) ((f_X2_letterAt N length bytes (z44.2 + 1)).bind (fun z60 => ifb (z60 = 62) (f_X2_side_73 (f_X2_side_26 N n) N length z44.2 bytes z35.2.2 y1 y3 z44.1 1) (f_X2_side_72 (f_X2_side_26 N n) N length z44.2 bytes z35.2.2 y1 y3 z44.1)))))))
def f_X2_side_24 (N : Nat) (length : Int32) (at_ : Int32) (bytes : Nat → Int32) (sum_numbers : Nat → Int64) (y1 : Int32) (y2 : Int32) : Option (Int32 × (Int32) × (Nat → Int64)) := f_X2_side_26 N N length at_ bytes sum_numbers y1 y2 0
def f_X2_side (N : Nat) (length : Int32) (at_ : Int32) (bytes : Nat → Int32) (sum_numbers : Nat → Int64) (x1 : Int32) : Option (Int32 × (Int32) × (Nat → Int64)) := (f_X2_nextLetter N length at_ bytes).bind (fun z3 => ifb (z3.1 = 45) (f_X2_side_24 N length (z3.2 + 1) bytes sum_numbers x1 (-x1)) (f_X2_side_24 N length z3.2 bytes sum_numbers x1 x1))
variable {p : Program} {l : Launch} {e : Env} {s : State} {m : MethodId} {below : List Frame} {meth : Method} {c : Code} {args : Array Value} {x0 : Cond} {D : va_G} {cI cJ cB : ClassId} {sz N : Nat} {ws0 : va_W} {a0 a_bench a_waiting a_bytes a_sum a_sum_numbers : Nat} {length : Int32} {waits : Int32} {opened : Int32} {parens : Int32} {great : Int32} {bytes : Nat → Int32} {z : Int32 × (Int32) × (Nat → Int64)}
set_option maxHeartbeats 4000000 in
set_option maxRecDepth 100000 in
theorem w_X2_side_94 (CX : Cx p m c cX2_side 6 s args x0 RX2 meth (some .boolean)) (hK : va_K D vwCl (ty0 cI cJ cB) s) (hsz : s.heap.size = sz) : ∀ (at_ : Int32) (sum_numbers : Nat → Int64) (H : Heap) (locs : List Loc) (ls : Array Slot), f_X2_side_94 N length at_ bytes sum_numbers = some z → va_P D vwCl (ws_X2_side cI cJ cB a0 a_bench a_waiting a_bytes a_sum a_sum_numbers length waits at_ opened parens great bytes sum_numbers) H → va_D (va_A ws0 sz) (ws_X2_side cI cJ cB a0 a_bench a_waiting a_bytes a_sum a_sum_numbers length waits at_ opened parens great bytes sum_numbers) → va_S (va_A ws0 sz) s.heap H locs → lv_has ls 6 [] → W p l e rm_X2_side s m args below meth c H locs 0 0 (MQ below (gQ D sz ws0 (ws_X2_side cI cJ cB a0 a_bench a_waiting a_bytes a_sum a_sum_numbers length waits z.2.1 opened parens great bytes z.2.2) (some (.int z.1))) args s 0 0 (va_A ws0 sz)) (F0 m 94 ls []) := by
  obtain ⟨F, hr, hlk, hNw⟩ := id CX
  have hx := F.1
  have hb := F.2.1
  have hown := F.2.2.2.1
  have hA : ∀ q, s.heap.size ≤ q → va_A ws0 sz q := fun q hq => Or.inr (hsz ▸ hq)
  intro at_ sum_numbers H locs ls h hP hD hS hl
  unfold f_X2_side_94 at h
  refine lv_iconst (v := 1) hx hb dX2_side_94 (by decide) ?_
  obtain rfl := Option.some.inj h
  exact r_ret (v := 1) F hr hlk rfl dX2_side_95 hsz hP hD hS
set_option maxHeartbeats 4000000 in
set_option maxRecDepth 100000 in
theorem w_X2_side_109 (CX : Cx p m c cX2_side 6 s args x0 RX2 meth (some .boolean)) (hK : va_K D vwCl (ty0 cI cJ cB) s) (hsz : s.heap.size = sz) {K26 : Int32 → Int32 → (Nat → Int32) → (Nat → Int64) → Int32 → Int32 → Int32 → Option (Int32 × (Int32) × (Nat → Int64))} (hK26 : ∀ (at_ : Int32) (sum_numbers : Nat → Int64) (y1 : Int32) (y2 : Int32) (y3 : Int32) (H : Heap) (locs : List Loc) (ls : Array Slot), K26 length at_ bytes sum_numbers y1 y2 y3 = some z → va_P D vwCl (ws_X2_side cI cJ cB a0 a_bench a_waiting a_bytes a_sum a_sum_numbers length waits at_ opened parens great bytes sum_numbers) H → va_D (va_A ws0 sz) (ws_X2_side cI cJ cB a0 a_bench a_waiting a_bytes a_sum a_sum_numbers length waits at_ opened parens great bytes sum_numbers) → va_S (va_A ws0 sz) s.heap H locs → lv_has ls 6 [(0, .ref a0), (1, .int y1), (2, .int y2), (3, .int y3)] → W p l e rm_X2_side s m args below meth c H locs 0 0 (MQ below (gQ D sz ws0 (ws_X2_side cI cJ cB a0 a_bench a_waiting a_bytes a_sum a_sum_numbers length waits z.2.1 opened parens great bytes z.2.2) (some (.int z.1))) args s 0 0 (va_A ws0 sz)) (F0 m 26 ls [])) : ∀ (at_ : Int32) (sum_numbers : Nat → Int64) (y1 : Int32) (y3 : Int32) (s0 : Int32) (H : Heap) (locs : List Loc) (ls : Array Slot), f_X2_side_109 K26 N length at_ bytes sum_numbers y1 y3 s0 = some z → va_P D vwCl (ws_X2_side cI cJ cB a0 a_bench a_waiting a_bytes a_sum a_sum_numbers length waits at_ opened parens great bytes sum_numbers) H → va_D (va_A ws0 sz) (ws_X2_side cI cJ cB a0 a_bench a_waiting a_bytes a_sum a_sum_numbers length waits at_ opened parens great bytes sum_numbers) → va_S (va_A ws0 sz) s.heap H locs → lv_has ls 6 [(0, .ref a0), (1, .int y1), (3, .int y3)] → W p l e rm_X2_side s m args below meth c H locs 0 0 (MQ below (gQ D sz ws0 (ws_X2_side cI cJ cB a0 a_bench a_waiting a_bytes a_sum a_sum_numbers length waits z.2.1 opened parens great bytes z.2.2) (some (.int z.1))) args s 0 0 (va_A ws0 sz)) (F0 m 109 ls [.int s0]) := by
  obtain ⟨F, hr, hlk, hNw⟩ := id CX
  have hx := F.1
  have hb := F.2.1
  have hown := F.2.2.2.1
  have hA : ∀ q, s.heap.size ≤ q → va_A ws0 sz q := fun q hq => Or.inr (hsz ▸ hq)
  intro at_ sum_numbers y1 y3 s0 H locs ls h hP hD hS hl
  unfold f_X2_side_109 at h
  refine lv_istore_n (lv' := [(2, .int s0), (0, .ref a0), (1, .int y1), (3, .int y3)]) hx hb dX2_side_109 rfl hl (by decide) rfl (fun ls hl => ?_)
  refine lv_aload_n hx hb dX2_side_110 rfl (lv_at hl 1 rfl) ?_
  refine lv_dup hx hb dX2_side_111 rfl ?_
  refine r_get F hK hP 0 6 rfl inW_X2 wm_173 rfl (by decide) rfl dX2_side_112 ?_
  refine lv_iconst (v := 1) hx hb dX2_side_115 (by decide) ?_
  refine lv_iadd hx hb dX2_side_116 ?_
  refine r_put (wn := (ws_X2_side cI cJ cB a0 a_bench a_waiting a_bytes a_sum a_sum_numbers length waits (at_ + 1) opened parens great bytes sum_numbers)) F hK hP hD hS 0 6 rfl inW_X2 wm_173 tyX2_ok nmX2 rfl rfl (by decide) rfl rfl (Nat.le_of_ble_eq_true rfl) rfl dX2_side_117 (fun H locs hP hD hS => ?_)
  refine lv_iinc (v := y3 + 1) (lv' := [(3, .int (y3 + 1)), (2, .int s0), (0, .ref a0), (1, .int y1)]) hx hb dX2_side_120 hl (k := 3) rfl rfl (by decide) rfl (fun ls hl => ?_)
  refine lv_goto (tgt := 26) hx hb dX2_side_123 (by decide) ?_
  exact hK26 (at_ + 1) sum_numbers y1 s0 (y3 + 1) _ _ _ h hP hD hS (lv_sub hl [2, 3, 1, 0] rfl)
set_option maxHeartbeats 4000000 in
set_option maxRecDepth 100000 in
theorem w_X2_side_96 (CX : Cx p m c cX2_side 6 s args x0 RX2 meth (some .boolean)) (hK : va_K D vwCl (ty0 cI cJ cB) s) (hsz : s.heap.size = sz) {K26 : Int32 → Int32 → (Nat → Int32) → (Nat → Int64) → Int32 → Int32 → Int32 → Option (Int32 × (Int32) × (Nat → Int64))} (hK26 : ∀ (at_ : Int32) (sum_numbers : Nat → Int64) (y1 : Int32) (y2 : Int32) (y3 : Int32) (H : Heap) (locs : List Loc) (ls : Array Slot), K26 length at_ bytes sum_numbers y1 y2 y3 = some z → va_P D vwCl (ws_X2_side cI cJ cB a0 a_bench a_waiting a_bytes a_sum a_sum_numbers length waits at_ opened parens great bytes sum_numbers) H → va_D (va_A ws0 sz) (ws_X2_side cI cJ cB a0 a_bench a_waiting a_bytes a_sum a_sum_numbers length waits at_ opened parens great bytes sum_numbers) → va_S (va_A ws0 sz) s.heap H locs → lv_has ls 6 [(0, .ref a0), (1, .int y1), (2, .int y2), (3, .int y3)] → W p l e rm_X2_side s m args below meth c H locs 0 0 (MQ below (gQ D sz ws0 (ws_X2_side cI cJ cB a0 a_bench a_waiting a_bytes a_sum a_sum_numbers length waits z.2.1 opened parens great bytes z.2.2) (some (.int z.1))) args s 0 0 (va_A ws0 sz)) (F0 m 26 ls [])) : ∀ (at_ : Int32) (sum_numbers : Nat → Int64) (y1 : Int32) (y3 : Int32) (y4 : Int32) (H : Heap) (locs : List Loc) (ls : Array Slot), f_X2_side_96 K26 N length at_ bytes sum_numbers y1 y3 y4 = some z → va_P D vwCl (ws_X2_side cI cJ cB a0 a_bench a_waiting a_bytes a_sum a_sum_numbers length waits at_ opened parens great bytes sum_numbers) H → va_D (va_A ws0 sz) (ws_X2_side cI cJ cB a0 a_bench a_waiting a_bytes a_sum a_sum_numbers length waits at_ opened parens great bytes sum_numbers) → va_S (va_A ws0 sz) s.heap H locs → lv_has ls 6 [(0, .ref a0), (1, .int y1), (3, .int y3), (4, .int y4)] → W p l e rm_X2_side s m args below meth c H locs 0 0 (MQ below (gQ D sz ws0 (ws_X2_side cI cJ cB a0 a_bench a_waiting a_bytes a_sum a_sum_numbers length waits z.2.1 opened parens great bytes z.2.2) (some (.int z.1))) args s 0 0 (va_A ws0 sz)) (F0 m 96 ls []) := by
  obtain ⟨F, hr, hlk, hNw⟩ := id CX
  have hx := F.1
  have hb := F.2.1
  have hown := F.2.2.2.1
  have hA : ∀ q, s.heap.size ≤ q → va_A ws0 sz q := fun q hq => Or.inr (hsz ▸ hq)
  intro at_ sum_numbers y1 y3 y4 H locs ls h hP hD hS hl
  unfold f_X2_side_96 at h
  refine lv_iload hx hb dX2_side_96 (lv_at hl 3 rfl) ?_
  refine lv_bipush (v := 43) hx hb dX2_side_98 (by decide) ?_
  refine lv_icmp_ne (tgt := 107) hx hb dX2_side_100 (by decide) (fun c100 => ?_) (fun c100 => ?_)
  · have h := o_f c100 h
    refine lv_iload_n hx hb dX2_side_107 rfl (lv_at hl 1 rfl) ?_
    refine lv_ineg hx hb dX2_side_108 ?_
    exact w_X2_side_109 CX hK hsz (hK26 := hK26) at_ sum_numbers y1 y3 (-y1) _ _ _ h hP hD hS (lv_sub hl [0, 1, 2] rfl)
  · have h := o_t c100 h
    refine lv_iload_n hx hb dX2_side_103 rfl (lv_at hl 1 rfl) ?_
    refine lv_goto (tgt := 109) hx hb dX2_side_104 (by decide) ?_
    exact w_X2_side_109 CX hK hsz (hK26 := hK26) at_ sum_numbers y1 y3 y1 _ _ _ h hP hD hS (lv_sub hl [0, 1, 2] rfl)
set_option maxHeartbeats 4000000 in
set_option maxRecDepth 100000 in
theorem w_X2_side_73 (CX : Cx p m c cX2_side 6 s args x0 RX2 meth (some .boolean)) (hK : va_K D vwCl (ty0 cI cJ cB) s) (hsz : s.heap.size = sz) {K26 : Int32 → Int32 → (Nat → Int32) → (Nat → Int64) → Int32 → Int32 → Int32 → Option (Int32 × (Int32) × (Nat → Int64))} (hK26 : ∀ (at_ : Int32) (sum_numbers : Nat → Int64) (y1 : Int32) (y2 : Int32) (y3 : Int32) (H : Heap) (locs : List Loc) (ls : Array Slot), K26 length at_ bytes sum_numbers y1 y2 y3 = some z → va_P D vwCl (ws_X2_side cI cJ cB a0 a_bench a_waiting a_bytes a_sum a_sum_numbers length waits at_ opened parens great bytes sum_numbers) H → va_D (va_A ws0 sz) (ws_X2_side cI cJ cB a0 a_bench a_waiting a_bytes a_sum a_sum_numbers length waits at_ opened parens great bytes sum_numbers) → va_S (va_A ws0 sz) s.heap H locs → lv_has ls 6 [(0, .ref a0), (1, .int y1), (2, .int y2), (3, .int y3)] → W p l e rm_X2_side s m args below meth c H locs 0 0 (MQ below (gQ D sz ws0 (ws_X2_side cI cJ cB a0 a_bench a_waiting a_bytes a_sum a_sum_numbers length waits z.2.1 opened parens great bytes z.2.2) (some (.int z.1))) args s 0 0 (va_A ws0 sz)) (F0 m 26 ls [])) : ∀ (at_ : Int32) (sum_numbers : Nat → Int64) (y1 : Int32) (y3 : Int32) (y4 : Int32) (s0 : Int32) (H : Heap) (locs : List Loc) (ls : Array Slot), f_X2_side_73 K26 N length at_ bytes sum_numbers y1 y3 y4 s0 = some z → va_P D vwCl (ws_X2_side cI cJ cB a0 a_bench a_waiting a_bytes a_sum a_sum_numbers length waits at_ opened parens great bytes sum_numbers) H → va_D (va_A ws0 sz) (ws_X2_side cI cJ cB a0 a_bench a_waiting a_bytes a_sum a_sum_numbers length waits at_ opened parens great bytes sum_numbers) → va_S (va_A ws0 sz) s.heap H locs → lv_has ls 6 [(0, .ref a0), (1, .int y1), (3, .int y3), (4, .int y4)] → W p l e rm_X2_side s m args below meth c H locs 0 0 (MQ below (gQ D sz ws0 (ws_X2_side cI cJ cB a0 a_bench a_waiting a_bytes a_sum a_sum_numbers length waits z.2.1 opened parens great bytes z.2.2) (some (.int z.1))) args s 0 0 (va_A ws0 sz)) (F0 m 73 ls [.int s0]) := by
  obtain ⟨F, hr, hlk, hNw⟩ := id CX
  have hx := F.1
  have hb := F.2.1
  have hown := F.2.2.2.1
  have hA : ∀ q, s.heap.size ≤ q → va_A ws0 sz q := fun q hq => Or.inr (hsz ▸ hq)
  intro at_ sum_numbers y1 y3 y4 s0 H locs ls h hP hD hS hl
  unfold f_X2_side_73 at h
  refine lv_istore (lv' := [(5, .int s0), (0, .ref a0), (1, .int y1), (3, .int y3), (4, .int y4)]) hx hb dX2_side_73 hl (by decide) rfl (fun ls hl => ?_)
  refine lv_iload hx hb dX2_side_75 (lv_at hl 4 rfl) ?_
  refine lv_bipush (v := 43) hx hb dX2_side_77 (by decide) ?_
  refine lv_icmp_eq (tgt := 96) hx hb dX2_side_79 (by decide) (fun c79 => ?_) (fun c79 => ?_)
  · have h := o_t c79 h
    exact w_X2_side_96 CX hK hsz (hK26 := hK26) at_ sum_numbers y1 y3 y4 _ _ _ h hP hD hS (lv_sub hl [1, 2, 3, 4] rfl)
  · have h := o_f c79 h
    refine lv_iload hx hb dX2_side_82 (lv_at hl 4 rfl) ?_
    refine lv_bipush (v := 45) hx hb dX2_side_84 (by decide) ?_
    refine lv_icmp_ne (tgt := 94) hx hb dX2_side_86 (by decide) (fun c86 => ?_) (fun c86 => ?_)
    · have h := o_f c86 h
      exact w_X2_side_94 CX hK hsz at_ sum_numbers _ _ _ h hP hD hS (lv_sub hl [] rfl)
    · have h := o_t c86 h
      refine lv_iload hx hb dX2_side_89 (lv_at hl 0 rfl) ?_
      refine lv_if_eq (tgt := 96) hx hb dX2_side_91 (by decide) (fun c91 => ?_) (fun c91 => ?_)
      · have h := o_t c91 h
        exact w_X2_side_96 CX hK hsz (hK26 := hK26) at_ sum_numbers y1 y3 y4 _ _ _ h hP hD hS (lv_sub hl [1, 2, 3, 4] rfl)
      · have h := o_f c91 h
        exact w_X2_side_94 CX hK hsz at_ sum_numbers _ _ _ h hP hD hS (lv_sub hl [] rfl)
set_option maxHeartbeats 4000000 in
set_option maxRecDepth 100000 in
theorem w_X2_side_72 (CX : Cx p m c cX2_side 6 s args x0 RX2 meth (some .boolean)) (hK : va_K D vwCl (ty0 cI cJ cB) s) (hsz : s.heap.size = sz) {K26 : Int32 → Int32 → (Nat → Int32) → (Nat → Int64) → Int32 → Int32 → Int32 → Option (Int32 × (Int32) × (Nat → Int64))} (hK26 : ∀ (at_ : Int32) (sum_numbers : Nat → Int64) (y1 : Int32) (y2 : Int32) (y3 : Int32) (H : Heap) (locs : List Loc) (ls : Array Slot), K26 length at_ bytes sum_numbers y1 y2 y3 = some z → va_P D vwCl (ws_X2_side cI cJ cB a0 a_bench a_waiting a_bytes a_sum a_sum_numbers length waits at_ opened parens great bytes sum_numbers) H → va_D (va_A ws0 sz) (ws_X2_side cI cJ cB a0 a_bench a_waiting a_bytes a_sum a_sum_numbers length waits at_ opened parens great bytes sum_numbers) → va_S (va_A ws0 sz) s.heap H locs → lv_has ls 6 [(0, .ref a0), (1, .int y1), (2, .int y2), (3, .int y3)] → W p l e rm_X2_side s m args below meth c H locs 0 0 (MQ below (gQ D sz ws0 (ws_X2_side cI cJ cB a0 a_bench a_waiting a_bytes a_sum a_sum_numbers length waits z.2.1 opened parens great bytes z.2.2) (some (.int z.1))) args s 0 0 (va_A ws0 sz)) (F0 m 26 ls [])) : ∀ (at_ : Int32) (sum_numbers : Nat → Int64) (y1 : Int32) (y3 : Int32) (y4 : Int32) (H : Heap) (locs : List Loc) (ls : Array Slot), f_X2_side_72 K26 N length at_ bytes sum_numbers y1 y3 y4 = some z → va_P D vwCl (ws_X2_side cI cJ cB a0 a_bench a_waiting a_bytes a_sum a_sum_numbers length waits at_ opened parens great bytes sum_numbers) H → va_D (va_A ws0 sz) (ws_X2_side cI cJ cB a0 a_bench a_waiting a_bytes a_sum a_sum_numbers length waits at_ opened parens great bytes sum_numbers) → va_S (va_A ws0 sz) s.heap H locs → lv_has ls 6 [(0, .ref a0), (1, .int y1), (3, .int y3), (4, .int y4)] → W p l e rm_X2_side s m args below meth c H locs 0 0 (MQ below (gQ D sz ws0 (ws_X2_side cI cJ cB a0 a_bench a_waiting a_bytes a_sum a_sum_numbers length waits z.2.1 opened parens great bytes z.2.2) (some (.int z.1))) args s 0 0 (va_A ws0 sz)) (F0 m 72 ls []) := by
  obtain ⟨F, hr, hlk, hNw⟩ := id CX
  have hx := F.1
  have hb := F.2.1
  have hown := F.2.2.2.1
  have hA : ∀ q, s.heap.size ≤ q → va_A ws0 sz q := fun q hq => Or.inr (hsz ▸ hq)
  intro at_ sum_numbers y1 y3 y4 H locs ls h hP hD hS hl
  unfold f_X2_side_72 at h
  refine lv_iconst (v := 0) hx hb dX2_side_72 (by decide) ?_
  exact w_X2_side_73 CX hK hsz (hK26 := hK26) at_ sum_numbers y1 y3 y4 0 _ _ _ h hP hD hS (lv_sub hl [0, 1, 2, 3] rfl)
set_option maxHeartbeats 4000000 in
set_option maxRecDepth 100000 in
theorem w_X2_side_26 (CX : Cx p m c cX2_side 6 s args x0 RX2 meth (some .boolean)) (hK : va_K D vwCl (ty0 cI cJ cB) s) (hsz : s.heap.size = sz) : ∀ (n : Nat), ∀ (at_ : Int32) (sum_numbers : Nat → Int64) (y1 : Int32) (y2 : Int32) (y3 : Int32) (H : Heap) (locs : List Loc) (ls : Array Slot), f_X2_side_26 N n length at_ bytes sum_numbers y1 y2 y3 = some z → va_P D vwCl (ws_X2_side cI cJ cB a0 a_bench a_waiting a_bytes a_sum a_sum_numbers length waits at_ opened parens great bytes sum_numbers) H → va_D (va_A ws0 sz) (ws_X2_side cI cJ cB a0 a_bench a_waiting a_bytes a_sum a_sum_numbers length waits at_ opened parens great bytes sum_numbers) → va_S (va_A ws0 sz) s.heap H locs → lv_has ls 6 [(0, .ref a0), (1, .int y1), (2, .int y2), (3, .int y3)] → W p l e rm_X2_side s m args below meth c H locs 0 0 (MQ below (gQ D sz ws0 (ws_X2_side cI cJ cB a0 a_bench a_waiting a_bytes a_sum a_sum_numbers length waits z.2.1 opened parens great bytes z.2.2) (some (.int z.1))) args s 0 0 (va_A ws0 sz)) (F0 m 26 ls []) := by
  obtain ⟨F, hr, hlk, hNw⟩ := id CX
  have hx := F.1
  have hb := F.2.1
  have hown := F.2.2.2.1
  have hA : ∀ q, s.heap.size ≤ q → va_A ws0 sz q := fun q hq => Or.inr (hsz ▸ hq)
  intro n
  induction n with
  | zero =>
    intro at_ sum_numbers y1 y2 y3 H locs ls h
    cases h
  | succ n ih =>
    intro at_ sum_numbers y1 y2 y3 H locs ls h hP hD hS hl
    unfold f_X2_side_26 at h
    refine lv_iload_n hx hb dX2_side_26 rfl (lv_at hl 3 rfl) ?_
    refine lv_sipush (v := 240) hx hb dX2_side_27 (by decide) ?_
    refine lv_icmp_gt (tgt := 126) hx hb dX2_side_30 (by decide) (fun c30 => ?_) (fun c30 => ?_)
    · have h := o_t c30 h
      refine lv_iconst (v := 0) hx hb dX2_side_126 (by decide) ?_
      obtain rfl := Option.some.inj h
      exact r_ret (v := 0) F hr hlk rfl dX2_side_127 hsz hP hD hS
    · have h := o_f c30 h
      refine lv_aload_n hx hb dX2_side_33 rfl (lv_at hl 0 rfl) ?_
      refine lv_iload_n hx hb dX2_side_34 rfl (lv_at hl 2 rfl) ?_
      obtain ⟨z35, hz35, h⟩ := o_b h
      refine k_v (wn := (ws_X2_side cI cJ cB a0 a_bench a_waiting a_bytes a_sum a_sum_numbers length waits z35.2.1 opened parens great bytes z35.2.2)) (As := [.int y2]) (rest := []) F hNw hK hP hD hS hA (c_X2_item l D cI cJ cB a0 a_bench a_waiting a_bytes a_sum a_sum_numbers _ length waits at_ opened parens great bytes sum_numbers y2 N hz35) wm_685 cv_X2_item [0, 1, 2, 3] [] [0, 1, 2, 3] (⟨rfl, rfl, rfl, by decide, rfl⟩ : Ix [0, 1, 2, 3] [] [0, 1, 2, 3] 4) rfl rfl rfl rfl rfl rfl ⟨rfl, rfl, by decide, by decide⟩ hl.1 rfl (Nat.le_of_ble_eq_true rfl) ⟨Nat.zero_le _, Nat.zero_le _⟩ dX2_side_35 (fun H locs hP hD hS => ?_)
      refine lv_if_ne (tgt := 43) hx hb dX2_side_38 (by decide) (fun c38 => ?_) (fun c38 => ?_)
      · have h := o_f c38 h
        refine lv_aload_n hx hb dX2_side_43 rfl (lv_at hl 0 rfl) ?_
        obtain ⟨z44, hz44, h⟩ := o_b h
        refine k_v (wn := (ws_X2_side cI cJ cB a0 a_bench a_waiting a_bytes a_sum a_sum_numbers length waits z44.2 opened parens great bytes z35.2.2)) (As := []) (rest := []) F hNw hK hP hD hS hA (c_X2_nextLetter l D cI cJ cB a0 a_bench a_sum a_waiting a_bytes _ length waits z35.2.1 opened parens great bytes N hz44) wm_638 cv_X2_nextLetter [0, 1] [2, 3] [2, 3, 0, 1] (⟨rfl, rfl, rfl, by decide, rfl⟩ : Ix [0, 1] [2, 3] [2, 3, 0, 1] 4) rfl rfl rfl rfl rfl rfl ⟨rfl, rfl, by decide, by decide⟩ hl.1 rfl (Nat.le_of_ble_eq_true rfl) ⟨Nat.zero_le _, Nat.zero_le _⟩ dX2_side_44 (fun H locs hP hD hS => ?_)
        refine lv_istore (lv' := [(4, .int z44.1), (0, .ref a0), (1, .int y1), (2, .int y2), (3, .int y3)]) hx hb dX2_side_47 hl (by decide) rfl (fun ls hl => ?_)
        refine lv_iload_n hx hb dX2_side_49 rfl (lv_at hl 2 rfl) ?_
        refine lv_if_ge (tgt := 72) hx hb dX2_side_50 (by decide) (fun c50 => ?_) (fun c50 => ?_)
        · have h := o_t c50 h
          exact w_X2_side_72 CX hK hsz (hK26 := ih) z44.2 z35.2.2 y1 y3 z44.1 _ _ _ h hP hD hS (lv_sub hl [1, 2, 4, 0] rfl)
        · have h := o_f c50 h
          refine lv_aload_n hx hb dX2_side_53 rfl (lv_at hl 1 rfl) ?_
          refine lv_aload_n hx hb dX2_side_54 rfl (lv_at hl 1 rfl) ?_
          refine r_get F hK hP 0 6 rfl inW_X2 wm_173 rfl (by decide) rfl dX2_side_55 ?_
          refine lv_iconst (v := 1) hx hb dX2_side_58 (by decide) ?_
          refine lv_iadd hx hb dX2_side_59 ?_
          obtain ⟨z60, hz60, h⟩ := o_b h
          refine k_v (wn := (ws_X2_side cI cJ cB a0 a_bench a_waiting a_bytes a_sum a_sum_numbers length waits z44.2 opened parens great bytes z35.2.2)) (As := [.int (z44.2 + 1)]) (rest := []) F hNw hK hP hD hS hA (c_X2_letterAt l D cI cJ cB a0 a_bench a_sum a_waiting a_bytes _ length waits z44.2 opened parens great bytes (z44.2 + 1) N hz60) wm_642 cv_X2_letterAt [0, 1] [2, 3] [2, 3, 0, 1] (⟨rfl, rfl, rfl, by decide, rfl⟩ : Ix [0, 1] [2, 3] [2, 3, 0, 1] 4) rfl rfl rfl rfl rfl rfl ⟨rfl, rfl, by decide, by decide⟩ hl.1 rfl (Nat.le_of_ble_eq_true rfl) ⟨Nat.zero_le _, Nat.zero_le _⟩ dX2_side_60 (fun H locs hP hD hS => ?_)
          refine lv_bipush (v := 62) hx hb dX2_side_63 (by decide) ?_
          refine lv_icmp_ne (tgt := 72) hx hb dX2_side_65 (by decide) (fun c65 => ?_) (fun c65 => ?_)
          · have h := o_f c65 h
            exact w_X2_side_72 CX hK hsz (hK26 := ih) z44.2 z35.2.2 y1 y3 z44.1 _ _ _ h hP hD hS (lv_sub hl [1, 2, 4, 0] rfl)
          · have h := o_t c65 h
            refine lv_iconst (v := 1) hx hb dX2_side_68 (by decide) ?_
            refine lv_goto (tgt := 73) hx hb dX2_side_69 (by decide) ?_
            exact w_X2_side_73 CX hK hsz (hK26 := ih) z44.2 z35.2.2 y1 y3 z44.1 1 _ _ _ h hP hD hS (lv_sub hl [1, 2, 4, 0] rfl)
      · have h := o_t c38 h
        refine lv_iconst (v := 0) hx hb dX2_side_41 (by decide) ?_
        obtain rfl := Option.some.inj h
        exact r_ret (v := 0) F hr hlk rfl dX2_side_42 hsz hP hD hS
set_option maxHeartbeats 4000000 in
set_option maxRecDepth 100000 in
theorem w_X2_side_24 (CX : Cx p m c cX2_side 6 s args x0 RX2 meth (some .boolean)) (hK : va_K D vwCl (ty0 cI cJ cB) s) (hsz : s.heap.size = sz) : ∀ (at_ : Int32) (sum_numbers : Nat → Int64) (y1 : Int32) (y2 : Int32) (H : Heap) (locs : List Loc) (ls : Array Slot), f_X2_side_24 N length at_ bytes sum_numbers y1 y2 = some z → va_P D vwCl (ws_X2_side cI cJ cB a0 a_bench a_waiting a_bytes a_sum a_sum_numbers length waits at_ opened parens great bytes sum_numbers) H → va_D (va_A ws0 sz) (ws_X2_side cI cJ cB a0 a_bench a_waiting a_bytes a_sum a_sum_numbers length waits at_ opened parens great bytes sum_numbers) → va_S (va_A ws0 sz) s.heap H locs → lv_has ls 6 [(0, .ref a0), (1, .int y1), (2, .int y2)] → W p l e rm_X2_side s m args below meth c H locs 0 0 (MQ below (gQ D sz ws0 (ws_X2_side cI cJ cB a0 a_bench a_waiting a_bytes a_sum a_sum_numbers length waits z.2.1 opened parens great bytes z.2.2) (some (.int z.1))) args s 0 0 (va_A ws0 sz)) (F0 m 24 ls []) := by
  obtain ⟨F, hr, hlk, hNw⟩ := id CX
  have hx := F.1
  have hb := F.2.1
  have hown := F.2.2.2.1
  have hA : ∀ q, s.heap.size ≤ q → va_A ws0 sz q := fun q hq => Or.inr (hsz ▸ hq)
  intro at_ sum_numbers y1 y2 H locs ls h hP hD hS hl
  unfold f_X2_side_24 at h
  refine lv_iconst (v := 0) hx hb dX2_side_24 (by decide) ?_
  refine lv_istore_n (lv' := [(3, .int 0), (0, .ref a0), (1, .int y1), (2, .int y2)]) hx hb dX2_side_25 rfl hl (by decide) rfl (fun ls hl => ?_)
  exact w_X2_side_26 CX hK hsz N at_ sum_numbers y1 y2 0 _ _ _ h hP hD hS (lv_sub hl [1, 2, 3, 0] rfl)
end G_X2_side
set_option maxHeartbeats 4000000 in
set_option maxRecDepth 100000 in
theorem c_X2_side (l : Launch) (D : va_G) (cI cJ cB : ClassId) (a0 a_bench a_waiting a_bytes a_sum a_sum_numbers : Nat) (sz : Nat) (length : Int32) (waits : Int32) (at_ : Int32) (opened : Int32) (parens : Int32) (great : Int32) (bytes : Nat → Int32) (sum_numbers : Nat → Int64) (x1 : Int32) (N : Nat) {z : Int32 × (Int32) × (Nat → Int64)} (h : f_X2_side N length at_ bytes sum_numbers x1 = some z) : Mg l yX2_side cX2_side 6 (some .boolean) rm_X2_side D (ty0 cI cJ cB) [.ref a0, .int x1] sz (ws_X2_side cI cJ cB a0 a_bench a_waiting a_bytes a_sum a_sum_numbers length waits at_ opened parens great bytes sum_numbers) (some (.int z.1)) (ws_X2_side cI cJ cB a0 a_bench a_waiting a_bytes a_sum a_sum_numbers length waits z.2.1 opened parens great bytes z.2.2) := by
  refine Mg.of (by decide) (Nat.le_of_ble_eq_true rfl) ?_
  intro p e s m below meth c CX hK hsz hP hD ls hl
  have CX : Cx p m c cX2_side 6 s ([.ref a0, .int x1] : List Value).toArray (Cond.code yX2_side cX2_side 6 (some .boolean)) RX2 meth (some .boolean) := CX
  obtain ⟨F, hr, hlk, hNw⟩ := id CX
  have hx := F.1
  have hb := F.2.1
  have hown := F.2.2.2.1
  have hl : lv_has ls 6 [(0, .ref a0), (1, .int x1)] := hl
  have hS : va_S (va_A (ws_X2_side cI cJ cB a0 a_bench a_waiting a_bytes a_sum a_sum_numbers length waits at_ opened parens great bytes sum_numbers) sz) s.heap s.heap [] := va_S.rf
  have hA : ∀ q, s.heap.size ≤ q → va_A (ws_X2_side cI cJ cB a0 a_bench a_waiting a_bytes a_sum a_sum_numbers length waits at_ opened parens great bytes sum_numbers) sz q := fun q hq => Or.inr (hsz ▸ hq)
  unfold f_X2_side at h
  refine lv_iload_n hx hb dX2_side_0 rfl (lv_at hl 1 rfl) ?_
  refine lv_istore_n (lv' := [(2, .int x1), (0, .ref a0), (1, .int x1)]) hx hb dX2_side_1 rfl hl (by decide) rfl (fun ls hl => ?_)
  refine lv_aload_n hx hb dX2_side_2 rfl (lv_at hl 1 rfl) ?_
  obtain ⟨z3, hz3, h⟩ := o_b h
  refine k_v (wn := (ws_X2_side cI cJ cB a0 a_bench a_waiting a_bytes a_sum a_sum_numbers length waits z3.2 opened parens great bytes sum_numbers)) (As := []) (rest := []) F hNw hK hP hD hS hA (c_X2_nextLetter l D cI cJ cB a0 a_bench a_sum a_waiting a_bytes _ length waits at_ opened parens great bytes N hz3) wm_638 cv_X2_nextLetter [0, 1] [2, 3] [2, 3, 0, 1] (⟨rfl, rfl, rfl, by decide, rfl⟩ : Ix [0, 1] [2, 3] [2, 3, 0, 1] 4) rfl rfl rfl rfl rfl rfl ⟨rfl, rfl, by decide, by decide⟩ hl.1 rfl (Nat.le_of_ble_eq_true rfl) ⟨Nat.zero_le _, Nat.zero_le _⟩ dX2_side_3 (fun H locs hP hD hS => ?_)
  refine lv_bipush (v := 45) hx hb dX2_side_6 (by decide) ?_
  refine lv_icmp_ne (tgt := 24) hx hb dX2_side_8 (by decide) (fun c8 => ?_) (fun c8 => ?_)
  · have h := o_f c8 h
    exact w_X2_side_24 CX hK hsz z3.2 sum_numbers x1 x1 _ _ _ h hP hD hS (lv_sub hl [1, 2, 0] rfl)
  · have h := o_t c8 h
    refine lv_iload_n hx hb dX2_side_11 rfl (lv_at hl 2 rfl) ?_
    refine lv_ineg hx hb dX2_side_12 ?_
    refine lv_istore_n (lv' := [(2, .int (-x1)), (0, .ref a0), (1, .int x1)]) hx hb dX2_side_13 rfl hl (by decide) rfl (fun ls hl => ?_)
    refine lv_aload_n hx hb dX2_side_14 rfl (lv_at hl 1 rfl) ?_
    refine lv_dup hx hb dX2_side_15 rfl ?_
    refine r_get F hK hP 0 6 rfl inW_X2 wm_173 rfl (by decide) rfl dX2_side_16 ?_
    refine lv_iconst (v := 1) hx hb dX2_side_19 (by decide) ?_
    refine lv_iadd hx hb dX2_side_20 ?_
    refine r_put (wn := (ws_X2_side cI cJ cB a0 a_bench a_waiting a_bytes a_sum a_sum_numbers length waits (z3.2 + 1) opened parens great bytes sum_numbers)) F hK hP hD hS 0 6 rfl inW_X2 wm_173 tyX2_ok nmX2 rfl rfl (by decide) rfl rfl (Nat.le_of_ble_eq_true rfl) rfl dX2_side_21 (fun H locs hP hD hS => ?_)
    exact w_X2_side_24 CX hK hsz (z3.2 + 1) sum_numbers x1 (-x1) _ _ _ h hP hD hS (lv_sub hl [1, 2, 0] rfl)
section G_X2_atom
abbrev ws_X2_atom (cI cJ cB : ClassId) (a0 a_waiting a_bytes a_bench a_bench_tree a_bench_tree_cells a_bench_starts a_bench_looses a_sum a_sum_numbers : Nat) (length : Int32) (waits : Int32) (at_ : Int32) (opened : Int32) (parens : Int32) (great : Int32) (bytes : Nat → Int32) (bench_parts : Int32) (bench_tree_rows : Int32) (bench_tree_cells : Nat → Int32) (bench_tree_cells_n : Nat) (bench_starts : Nat → Int32) (bench_looses : Nat → Int32) (sum_numbers : Nat → Int64) : va_W := [(a0, .inr (4, [.ref a_bytes, .ref a_bench, .ref a_sum, .ref a_waiting, .int length, .int waits, .int at_, .int opened, .int parens, .int great])), (a_bytes, .inl (cB, 240, .inl bytes)), (a_bench, .inr (2, [.ref a_bench_tree, .ref a_bench_starts, .ref a_bench_looses, .int bench_parts])), (a_bench_tree, .inr (7, [.ref a_bench_tree_cells, .int bench_tree_rows])), (a_bench_tree_cells, .inl (cI, bench_tree_cells_n, .inl bench_tree_cells)), (a_bench_starts, .inl (cI, 402, .inl bench_starts)), (a_bench_looses, .inl (cI, 402, .inl bench_looses)), (a_sum, .inr (6, [.ref a_sum_numbers])), (a_sum_numbers, .inl (cJ, 9, .inr (.inl sum_numbers)))]
abbrev rm_X2_atom : Room := { frames := 5, cells := 0, slots := 0, locals := 114 }
def f_X2_atom_162 (N : Nat) (length : Int32) (at_ : Int32) (great : Int32) (bytes : Nat → Int32) (bench_parts : Int32) (bench_tree_rows : Int32) (bench_tree_cells : Nat → Int32) (bench_tree_cells_n : Nat) (bench_starts : Nat → Int32) (bench_looses : Nat → Int32) (sum_numbers : Nat → Int64) (s1 : Int32) : Option (Int32 × (Int32) × (Int32) × (Int32) × (Int32) × (Nat → Int32) × (Nat → Int32) × (Nat → Int32) × (Nat → Int64)) := (f_X2_pushAtom N great bench_parts bench_tree_rows bench_tree_cells bench_tree_cells_n bench_starts bench_looses sum_numbers s1).bind (fun z162 => some (1, at_, z162.1, z162.2.1, z162.2.2.1, z162.2.2.2.1, z162.2.2.2.2.1, z162.2.2.2.2.2.1, z162.2.2.2.2.2.2))
def f_X2_atom_132 (N : Nat) (length : Int32) (at_ : Int32) (great : Int32) (bytes : Nat → Int32) (bench_parts : Int32) (bench_tree_rows : Int32) (bench_tree_cells : Nat → Int32) (bench_tree_cells_n : Nat) (bench_starts : Nat → Int32) (bench_looses : Nat → Int32) (sum_numbers : Nat → Int64) (y1 : Int32) (y2 : Int32) : Option (Int32 × (Int32) × (Int32) × (Int32) × (Int32) × (Nat → Int32) × (Nat → Int32) × (Nat → Int32) × (Nat → Int64)) := ifb (y1 = 61) (f_X2_atom_162 N length at_ great bytes bench_parts bench_tree_rows bench_tree_cells bench_tree_cells_n bench_starts bench_looses sum_numbers 2) (ifb (y1 = 33) (f_X2_atom_162 N length at_ great bytes bench_parts bench_tree_rows bench_tree_cells bench_tree_cells_n bench_starts bench_looses sum_numbers 3) (ifb (y2 = 0) (f_X2_atom_162 N length at_ great bytes bench_parts bench_tree_rows bench_tree_cells bench_tree_cells_n bench_starts bench_looses sum_numbers 4) (f_X2_atom_162 N length at_ great bytes bench_parts bench_tree_rows bench_tree_cells bench_tree_cells_n bench_starts bench_looses sum_numbers 5)))
def f_X2_atom_109 (N : Nat) (length : Int32) (at_ : Int32) (great : Int32) (bytes : Nat → Int32) (bench_parts : Int32) (bench_tree_rows : Int32) (bench_tree_cells : Nat → Int32) (bench_tree_cells_n : Nat) (bench_starts : Nat → Int32) (bench_looses : Nat → Int32) (sum_numbers : Nat → Int64) (y1 : Int32) (y2 : Int32) : Option (Int32 × (Int32) × (Int32) × (Int32) × (Int32) × (Nat → Int32) × (Nat → Int32) × (Nat → Int32) × (Nat → Int64)) := (f_X2_side N length at_ bytes sum_numbers (-1)).bind (fun z111 => ifb (z111.1 = 0) (some (0, z111.2.1, great, bench_parts, bench_tree_rows, bench_tree_cells, bench_starts, bench_looses, z111.2.2)) (ifb (y1 = 62) ((f_X4_turn N z111.2.2).bind (fun z129 => f_X2_atom_132 N length z111.2.1 great bytes bench_parts bench_tree_rows bench_tree_cells bench_tree_cells_n bench_starts bench_looses z129 y1 y2)) (f_X2_atom_132 N length z111.2.1 great bytes bench_parts bench_tree_rows bench_tree_cells bench_tree_cells_n bench_starts bench_looses z111.2.2 y1 y2)))
def f_X2_atom_95 (N : Nat) (length : Int32) (at_ : Int32) (great : Int32) (bytes : Nat → Int32) (bench_parts : Int32) (bench_tree_rows : Int32) (bench_tree_cells : Nat → Int32) (bench_tree_cells_n : Nat) (bench_starts : Nat → Int32) (bench_looses : Nat → Int32) (sum_numbers : Nat → Int64) (y1 : Int32) (y2 : Int32) : Option (Int32 × (Int32) × (Int32) × (Int32) × (Int32) × (Nat → Int32) × (Nat → Int32) × (Nat → Int32) × (Nat → Int64)) := ifb (y2 = 0) (f_X2_atom_109 N length at_ great bytes bench_parts bench_tree_rows bench_tree_cells bench_tree_cells_n bench_starts bench_looses sum_numbers y1 y2) (f_X2_atom_109 N length (at_ + 1) great bytes bench_parts bench_tree_rows bench_tree_cells bench_tree_cells_n bench_starts bench_looses sum_numbers y1 y2)
def f_X2_atom_82 (N : Nat) (length : Int32) (at_ : Int32) (great : Int32) (bytes : Nat → Int32) (bench_parts : Int32) (bench_tree_rows : Int32) (bench_tree_cells : Nat → Int32) (bench_tree_cells_n : Nat) (bench_starts : Nat → Int32) (bench_looses : Nat → Int32) (sum_numbers : Nat → Int64) (y1 : Int32) (s0 : Int32) : Option (Int32 × (Int32) × (Int32) × (Int32) × (Int32) × (Nat → Int32) × (Nat → Int32) × (Nat → Int32) × (Nat → Int64)) := ifb (y1 = 33) (ifb (s0 = 0) (some (0, at_, great, bench_parts, bench_tree_rows, bench_tree_cells, bench_starts, bench_looses, sum_numbers)) (f_X2_atom_95 N length at_ great bytes bench_parts bench_tree_rows bench_tree_cells bench_tree_cells_n bench_starts bench_looses sum_numbers y1 s0)) (f_X2_atom_95 N length at_ great bytes bench_parts bench_tree_rows bench_tree_cells bench_tree_cells_n bench_starts bench_looses sum_numbers y1 s0)
def f_X2_atom_81 (N : Nat) (length : Int32) (at_ : Int32) (great : Int32) (bytes : Nat → Int32) (bench_parts : Int32) (bench_tree_rows : Int32) (bench_tree_cells : Nat → Int32) (bench_tree_cells_n : Nat) (bench_starts : Nat → Int32) (bench_looses : Nat → Int32) (sum_numbers : Nat → Int64) (y1 : Int32) : Option (Int32 × (Int32) × (Int32) × (Int32) × (Int32) × (Nat → Int32) × (Nat → Int32) × (Nat → Int32) × (Nat → Int64)) := f_X2_atom_82 N length at_ great bytes bench_parts bench_tree_rows bench_tree_cells bench_tree_cells_n bench_starts bench_looses sum_numbers y1 0
def f_X2_atom_48 (N : Nat) (length : Int32) (at_ : Int32) (great : Int32) (bytes : Nat → Int32) (bench_parts : Int32) (bench_tree_rows : Int32) (bench_tree_cells : Nat → Int32) (bench_tree_cells_n : Nat) (bench_starts : Nat → Int32) (bench_looses : Nat → Int32) (sum_numbers : Nat → Int64) (y1 : Int32) : Option (Int32 × (Int32) × (Int32) × (Int32) × (Int32) × (Nat → Int32) × (Nat → Int32) × (Nat → Int32) × (Nat → Int64)) := ifb (y1 = 61) (f_X2_atom_81 N length (at_ + 1) great bytes bench_parts bench_tree_rows bench_tree_cells bench_tree_cells_n bench_starts bench_looses sum_numbers y1) ((f_X2_letterAt N length bytes (at_ + 1)).bind (fun z69 => ifb (z69 = 61) (f_X2_atom_82 N length (at_ + 1) great bytes bench_parts bench_tree_rows bench_tree_cells bench_tree_cells_n bench_starts bench_looses sum_numbers y1 1) (f_X2_atom_81 N length (at_ + 1) great bytes bench_parts bench_tree_rows bench_tree_cells bench_tree_cells_n bench_starts bench_looses sum_numbers y1)))
def f_X2_atom (N : Nat) (length : Int32) (at_ : Int32) (great : Int32) (bytes : Nat → Int32) (bench_parts : Int32) (bench_tree_rows : Int32) (bench_tree_cells : Nat → Int32) (bench_tree_cells_n : Nat) (bench_starts : Nat → Int32) (bench_looses : Nat → Int32) (sum_numbers : Nat → Int64) : Option (Int32 × (Int32) × (Int32) × (Int32) × (Int32) × (Nat → Int32) × (Nat → Int32) × (Nat → Int32) × (Nat → Int64)) := (f_X4_empty N sum_numbers).bind (fun z4 => (f_X2_side N length at_ bytes z4 1).bind (fun z9 => ifb (z9.1 = 0) (some (0, z9.2.1, great, bench_parts, bench_tree_rows, bench_tree_cells, bench_starts, bench_looses, z9.2.2)) ((f_X2_nextLetter N length z9.2.1 bytes).bind (fun z18 => ifb (z18.1 = 60) (f_X2_atom_48 N length z18.2 great bytes bench_parts bench_tree_rows bench_tree_cells bench_tree_cells_n bench_starts bench_looses z9.2.2 z18.1) (ifb (z18.1 = 61) (f_X2_atom_48 N length z18.2 great bytes bench_parts bench_tree_rows bench_tree_cells bench_tree_cells_n bench_starts bench_looses z9.2.2 z18.1) (ifb (z18.1 = 33) (f_X2_atom_48 N length z18.2 great bytes bench_parts bench_tree_rows bench_tree_cells bench_tree_cells_n bench_starts bench_looses z9.2.2 z18.1) (ifb (z18.1 = 62) (f_X2_atom_48 N length z18.2 great bytes bench_parts bench_tree_rows bench_tree_cells bench_tree_cells_n bench_starts bench_looses z9.2.2 z18.1) (some (0, z18.2, great, bench_parts, bench_tree_rows, bench_tree_cells, bench_starts, bench_looses, z9.2.2)))))))))
variable {p : Program} {l : Launch} {e : Env} {s : State} {m : MethodId} {below : List Frame} {meth : Method} {c : Code} {args : Array Value} {x0 : Cond} {D : va_G} {cI cJ cB : ClassId} {sz N : Nat} {ws0 : va_W} {a0 a_waiting a_bytes a_bench a_bench_tree a_bench_tree_cells a_bench_starts a_bench_looses a_sum a_sum_numbers : Nat} {length : Int32} {waits : Int32} {opened : Int32} {parens : Int32} {bytes : Nat → Int32} {bench_tree_cells_n : Nat} {z : Int32 × (Int32) × (Int32) × (Int32) × (Int32) × (Nat → Int32) × (Nat → Int32) × (Nat → Int32) × (Nat → Int64)}
set_option maxHeartbeats 4000000 in
set_option maxRecDepth 100000 in
theorem w_X2_atom_162 (CX : Cx p m c cX2_atom 3 s args x0 RX2 meth (some .boolean)) (hK : va_K D vwCl (ty0 cI cJ cB) s) (hsz : s.heap.size = sz) : ∀ (at_ : Int32) (great : Int32) (bench_parts : Int32) (bench_tree_rows : Int32) (bench_tree_cells : Nat → Int32) (bench_starts : Nat → Int32) (bench_looses : Nat → Int32) (sum_numbers : Nat → Int64) (s1 : Int32) (H : Heap) (locs : List Loc) (ls : Array Slot), f_X2_atom_162 N length at_ great bytes bench_parts bench_tree_rows bench_tree_cells bench_tree_cells_n bench_starts bench_looses sum_numbers s1 = some z → va_P D vwCl (ws_X2_atom cI cJ cB a0 a_waiting a_bytes a_bench a_bench_tree a_bench_tree_cells a_bench_starts a_bench_looses a_sum a_sum_numbers length waits at_ opened parens great bytes bench_parts bench_tree_rows bench_tree_cells bench_tree_cells_n bench_starts bench_looses sum_numbers) H → va_D (va_A ws0 sz) (ws_X2_atom cI cJ cB a0 a_waiting a_bytes a_bench a_bench_tree a_bench_tree_cells a_bench_starts a_bench_looses a_sum a_sum_numbers length waits at_ opened parens great bytes bench_parts bench_tree_rows bench_tree_cells bench_tree_cells_n bench_starts bench_looses sum_numbers) → va_S (va_A ws0 sz) s.heap H locs → lv_has ls 3 [] → W p l e rm_X2_atom s m args below meth c H locs 0 0 (MQ below (gQ D sz ws0 (ws_X2_atom cI cJ cB a0 a_waiting a_bytes a_bench a_bench_tree a_bench_tree_cells a_bench_starts a_bench_looses a_sum a_sum_numbers length waits z.2.1 opened parens z.2.2.1 bytes z.2.2.2.1 z.2.2.2.2.1 z.2.2.2.2.2.1 bench_tree_cells_n z.2.2.2.2.2.2.1 z.2.2.2.2.2.2.2.1 z.2.2.2.2.2.2.2.2) (some (.int z.1))) args s 0 0 (va_A ws0 sz)) (F0 m 162 ls [.int s1, .ref a0]) := by
  obtain ⟨F, hr, hlk, hNw⟩ := id CX
  have hx := F.1
  have hb := F.2.1
  have hown := F.2.2.2.1
  have hA : ∀ q, s.heap.size ≤ q → va_A ws0 sz q := fun q hq => Or.inr (hsz ▸ hq)
  intro at_ great bench_parts bench_tree_rows bench_tree_cells bench_starts bench_looses sum_numbers s1 H locs ls h hP hD hS hl
  unfold f_X2_atom_162 at h
  obtain ⟨z162, hz162, h⟩ := o_b h
  refine k_v (wn := (ws_X2_atom cI cJ cB a0 a_waiting a_bytes a_bench a_bench_tree a_bench_tree_cells a_bench_starts a_bench_looses a_sum a_sum_numbers length waits at_ opened parens z162.1 bytes z162.2.1 z162.2.2.1 z162.2.2.2.1 bench_tree_cells_n z162.2.2.2.2.1 z162.2.2.2.2.2.1 z162.2.2.2.2.2.2)) (As := [.int s1]) (rest := []) F hNw hK hP hD hS hA (c_X2_pushAtom l D cI cJ cB a0 a_bytes a_waiting a_bench a_bench_tree a_bench_tree_cells a_bench_starts a_bench_looses a_sum a_sum_numbers _ length waits at_ opened parens great bench_parts bench_tree_rows bench_tree_cells bench_tree_cells_n bench_starts bench_looses sum_numbers s1 N hz162) wm_709 cv_X2_pushAtom [0, 2, 3, 4, 5, 6, 7, 8] [1] [1, 0, 2, 3, 4, 5, 6, 7, 8] (⟨rfl, rfl, rfl, by decide, rfl⟩ : Ix [0, 2, 3, 4, 5, 6, 7, 8] [1] [1, 0, 2, 3, 4, 5, 6, 7, 8] 9) rfl rfl rfl rfl rfl rfl ⟨rfl, rfl, by decide, by decide⟩ hl.1 rfl (Nat.le_of_ble_eq_true rfl) ⟨Nat.zero_le _, Nat.zero_le _⟩ dX2_atom_162 (fun H locs hP hD hS => ?_)
  refine lv_iconst (v := 1) hx hb dX2_atom_165 (by decide) ?_
  obtain rfl := Option.some.inj h
  exact r_ret (v := 1) F hr hlk rfl dX2_atom_166 hsz hP hD hS
set_option maxHeartbeats 4000000 in
set_option maxRecDepth 100000 in
theorem w_X2_atom_132 (CX : Cx p m c cX2_atom 3 s args x0 RX2 meth (some .boolean)) (hK : va_K D vwCl (ty0 cI cJ cB) s) (hsz : s.heap.size = sz) : ∀ (at_ : Int32) (great : Int32) (bench_parts : Int32) (bench_tree_rows : Int32) (bench_tree_cells : Nat → Int32) (bench_starts : Nat → Int32) (bench_looses : Nat → Int32) (sum_numbers : Nat → Int64) (y1 : Int32) (y2 : Int32) (H : Heap) (locs : List Loc) (ls : Array Slot), f_X2_atom_132 N length at_ great bytes bench_parts bench_tree_rows bench_tree_cells bench_tree_cells_n bench_starts bench_looses sum_numbers y1 y2 = some z → va_P D vwCl (ws_X2_atom cI cJ cB a0 a_waiting a_bytes a_bench a_bench_tree a_bench_tree_cells a_bench_starts a_bench_looses a_sum a_sum_numbers length waits at_ opened parens great bytes bench_parts bench_tree_rows bench_tree_cells bench_tree_cells_n bench_starts bench_looses sum_numbers) H → va_D (va_A ws0 sz) (ws_X2_atom cI cJ cB a0 a_waiting a_bytes a_bench a_bench_tree a_bench_tree_cells a_bench_starts a_bench_looses a_sum a_sum_numbers length waits at_ opened parens great bytes bench_parts bench_tree_rows bench_tree_cells bench_tree_cells_n bench_starts bench_looses sum_numbers) → va_S (va_A ws0 sz) s.heap H locs → lv_has ls 3 [(0, .ref a0), (1, .int y1), (2, .int y2)] → W p l e rm_X2_atom s m args below meth c H locs 0 0 (MQ below (gQ D sz ws0 (ws_X2_atom cI cJ cB a0 a_waiting a_bytes a_bench a_bench_tree a_bench_tree_cells a_bench_starts a_bench_looses a_sum a_sum_numbers length waits z.2.1 opened parens z.2.2.1 bytes z.2.2.2.1 z.2.2.2.2.1 z.2.2.2.2.2.1 bench_tree_cells_n z.2.2.2.2.2.2.1 z.2.2.2.2.2.2.2.1 z.2.2.2.2.2.2.2.2) (some (.int z.1))) args s 0 0 (va_A ws0 sz)) (F0 m 132 ls []) := by
  obtain ⟨F, hr, hlk, hNw⟩ := id CX
  have hx := F.1
  have hb := F.2.1
  have hown := F.2.2.2.1
  have hA : ∀ q, s.heap.size ≤ q → va_A ws0 sz q := fun q hq => Or.inr (hsz ▸ hq)
  intro at_ great bench_parts bench_tree_rows bench_tree_cells bench_starts bench_looses sum_numbers y1 y2 H locs ls h hP hD hS hl
  unfold f_X2_atom_132 at h
  refine lv_aload_n hx hb dX2_atom_132 rfl (lv_at hl 0 rfl) ?_
  refine lv_iload_n hx hb dX2_atom_133 rfl (lv_at hl 1 rfl) ?_
  refine lv_bipush (v := 61) hx hb dX2_atom_134 (by decide) ?_
  refine lv_icmp_ne (tgt := 143) hx hb dX2_atom_136 (by decide) (fun c136 => ?_) (fun c136 => ?_)
  · have h := o_f c136 h
    refine lv_iload_n hx hb dX2_atom_143 rfl (lv_at hl 1 rfl) ?_
    refine lv_bipush (v := 33) hx hb dX2_atom_144 (by decide) ?_
    refine lv_icmp_ne (tgt := 153) hx hb dX2_atom_146 (by decide) (fun c146 => ?_) (fun c146 => ?_)
    · have h := o_f c146 h
      refine lv_iload_n hx hb dX2_atom_153 rfl (lv_at hl 2 rfl) ?_
      refine lv_if_eq (tgt := 161) hx hb dX2_atom_154 (by decide) (fun c154 => ?_) (fun c154 => ?_)
      · have h := o_t c154 h
        refine lv_iconst (v := 4) hx hb dX2_atom_161 (by decide) ?_
        exact w_X2_atom_162 CX hK hsz at_ great bench_parts bench_tree_rows bench_tree_cells bench_starts bench_looses sum_numbers 4 _ _ _ h hP hD hS (lv_sub hl [] rfl)
      · have h := o_f c154 h
        refine lv_iconst (v := 5) hx hb dX2_atom_157 (by decide) ?_
        refine lv_goto (tgt := 162) hx hb dX2_atom_158 (by decide) ?_
        exact w_X2_atom_162 CX hK hsz at_ great bench_parts bench_tree_rows bench_tree_cells bench_starts bench_looses sum_numbers 5 _ _ _ h hP hD hS (lv_sub hl [] rfl)
    · have h := o_t c146 h
      refine lv_iconst (v := 3) hx hb dX2_atom_149 (by decide) ?_
      refine lv_goto (tgt := 162) hx hb dX2_atom_150 (by decide) ?_
      exact w_X2_atom_162 CX hK hsz at_ great bench_parts bench_tree_rows bench_tree_cells bench_starts bench_looses sum_numbers 3 _ _ _ h hP hD hS (lv_sub hl [] rfl)
  · have h := o_t c136 h
    refine lv_iconst (v := 2) hx hb dX2_atom_139 (by decide) ?_
    refine lv_goto (tgt := 162) hx hb dX2_atom_140 (by decide) ?_
    exact w_X2_atom_162 CX hK hsz at_ great bench_parts bench_tree_rows bench_tree_cells bench_starts bench_looses sum_numbers 2 _ _ _ h hP hD hS (lv_sub hl [] rfl)
set_option maxHeartbeats 4000000 in
set_option maxRecDepth 100000 in
theorem w_X2_atom_109 (CX : Cx p m c cX2_atom 3 s args x0 RX2 meth (some .boolean)) (hK : va_K D vwCl (ty0 cI cJ cB) s) (hsz : s.heap.size = sz) : ∀ (at_ : Int32) (great : Int32) (bench_parts : Int32) (bench_tree_rows : Int32) (bench_tree_cells : Nat → Int32) (bench_starts : Nat → Int32) (bench_looses : Nat → Int32) (sum_numbers : Nat → Int64) (y1 : Int32) (y2 : Int32) (H : Heap) (locs : List Loc) (ls : Array Slot), f_X2_atom_109 N length at_ great bytes bench_parts bench_tree_rows bench_tree_cells bench_tree_cells_n bench_starts bench_looses sum_numbers y1 y2 = some z → va_P D vwCl (ws_X2_atom cI cJ cB a0 a_waiting a_bytes a_bench a_bench_tree a_bench_tree_cells a_bench_starts a_bench_looses a_sum a_sum_numbers length waits at_ opened parens great bytes bench_parts bench_tree_rows bench_tree_cells bench_tree_cells_n bench_starts bench_looses sum_numbers) H → va_D (va_A ws0 sz) (ws_X2_atom cI cJ cB a0 a_waiting a_bytes a_bench a_bench_tree a_bench_tree_cells a_bench_starts a_bench_looses a_sum a_sum_numbers length waits at_ opened parens great bytes bench_parts bench_tree_rows bench_tree_cells bench_tree_cells_n bench_starts bench_looses sum_numbers) → va_S (va_A ws0 sz) s.heap H locs → lv_has ls 3 [(0, .ref a0), (1, .int y1), (2, .int y2)] → W p l e rm_X2_atom s m args below meth c H locs 0 0 (MQ below (gQ D sz ws0 (ws_X2_atom cI cJ cB a0 a_waiting a_bytes a_bench a_bench_tree a_bench_tree_cells a_bench_starts a_bench_looses a_sum a_sum_numbers length waits z.2.1 opened parens z.2.2.1 bytes z.2.2.2.1 z.2.2.2.2.1 z.2.2.2.2.2.1 bench_tree_cells_n z.2.2.2.2.2.2.1 z.2.2.2.2.2.2.2.1 z.2.2.2.2.2.2.2.2) (some (.int z.1))) args s 0 0 (va_A ws0 sz)) (F0 m 109 ls []) := by
  obtain ⟨F, hr, hlk, hNw⟩ := id CX
  have hx := F.1
  have hb := F.2.1
  have hown := F.2.2.2.1
  have hA : ∀ q, s.heap.size ≤ q → va_A ws0 sz q := fun q hq => Or.inr (hsz ▸ hq)
  intro at_ great bench_parts bench_tree_rows bench_tree_cells bench_starts bench_looses sum_numbers y1 y2 H locs ls h hP hD hS hl
  unfold f_X2_atom_109 at h
  refine lv_aload_n hx hb dX2_atom_109 rfl (lv_at hl 0 rfl) ?_
  refine lv_iconst (v := (-1)) hx hb dX2_atom_110 (by decide) ?_
  obtain ⟨z111, hz111, h⟩ := o_b h
  refine k_v (wn := (ws_X2_atom cI cJ cB a0 a_waiting a_bytes a_bench a_bench_tree a_bench_tree_cells a_bench_starts a_bench_looses a_sum a_sum_numbers length waits z111.2.1 opened parens great bytes bench_parts bench_tree_rows bench_tree_cells bench_tree_cells_n bench_starts bench_looses z111.2.2)) (As := [.int (-1)]) (rest := []) F hNw hK hP hD hS hA (c_X2_side l D cI cJ cB a0 a_bench a_waiting a_bytes a_sum a_sum_numbers _ length waits at_ opened parens great bytes sum_numbers (-1) N hz111) wm_681 cv_X2_side [0, 1, 7, 8] [2, 3, 4, 5, 6] [5, 6, 0, 1, 2, 3, 4, 7, 8] (⟨rfl, rfl, rfl, by decide, rfl⟩ : Ix [0, 1, 7, 8] [2, 3, 4, 5, 6] [5, 6, 0, 1, 2, 3, 4, 7, 8] 9) rfl rfl rfl rfl rfl rfl ⟨rfl, rfl, by decide, by decide⟩ hl.1 rfl (Nat.le_of_ble_eq_true rfl) ⟨Nat.zero_le _, Nat.zero_le _⟩ dX2_atom_111 (fun H locs hP hD hS => ?_)
  refine lv_if_ne (tgt := 119) hx hb dX2_atom_114 (by decide) (fun c114 => ?_) (fun c114 => ?_)
  · have h := o_f c114 h
    refine lv_iload_n hx hb dX2_atom_119 rfl (lv_at hl 1 rfl) ?_
    refine lv_bipush (v := 62) hx hb dX2_atom_120 (by decide) ?_
    refine lv_icmp_ne (tgt := 132) hx hb dX2_atom_122 (by decide) (fun c122 => ?_) (fun c122 => ?_)
    · have h := o_f c122 h
      exact w_X2_atom_132 CX hK hsz z111.2.1 great bench_parts bench_tree_rows bench_tree_cells bench_starts bench_looses z111.2.2 y1 y2 _ _ _ h hP hD hS (lv_sub hl [0, 1, 2] rfl)
    · have h := o_t c122 h
      refine lv_aload_n hx hb dX2_atom_125 rfl (lv_at hl 0 rfl) ?_
      refine r_get F hK hP 0 2 rfl inW_X2 wm_168 rfl (by decide) rfl dX2_atom_126 ?_
      obtain ⟨z129, hz129, h⟩ := o_b h
      refine k_v (wn := (ws_X2_atom cI cJ cB a0 a_waiting a_bytes a_bench a_bench_tree a_bench_tree_cells a_bench_starts a_bench_looses a_sum a_sum_numbers length waits z111.2.1 opened parens great bytes bench_parts bench_tree_rows bench_tree_cells bench_tree_cells_n bench_starts bench_looses z129)) (As := []) (rest := []) F hNw hK hP hD hS hA (c_X4_turn l D cI cJ cB a_sum a_sum_numbers _ z111.2.2 N hz129) wm_705 cv_X4_turn [7, 8] [0, 1, 2, 3, 4, 5, 6] [0, 1, 2, 3, 4, 5, 6, 7, 8] (⟨rfl, rfl, rfl, by decide, rfl⟩ : Ix [7, 8] [0, 1, 2, 3, 4, 5, 6] [0, 1, 2, 3, 4, 5, 6, 7, 8] 9) rfl rfl rfl rfl rfl rfl ⟨rfl, rfl, by decide, by decide⟩ hl.1 rfl (Nat.le_of_ble_eq_true rfl) ⟨Nat.zero_le _, Nat.zero_le _⟩ dX2_atom_129 (fun H locs hP hD hS => ?_)
      exact w_X2_atom_132 CX hK hsz z111.2.1 great bench_parts bench_tree_rows bench_tree_cells bench_starts bench_looses z129 y1 y2 _ _ _ h hP hD hS (lv_sub hl [0, 1, 2] rfl)
  · have h := o_t c114 h
    refine lv_iconst (v := 0) hx hb dX2_atom_117 (by decide) ?_
    obtain rfl := Option.some.inj h
    exact r_ret (v := 0) F hr hlk rfl dX2_atom_118 hsz hP hD hS
set_option maxHeartbeats 4000000 in
set_option maxRecDepth 100000 in
theorem w_X2_atom_95 (CX : Cx p m c cX2_atom 3 s args x0 RX2 meth (some .boolean)) (hK : va_K D vwCl (ty0 cI cJ cB) s) (hsz : s.heap.size = sz) : ∀ (at_ : Int32) (great : Int32) (bench_parts : Int32) (bench_tree_rows : Int32) (bench_tree_cells : Nat → Int32) (bench_starts : Nat → Int32) (bench_looses : Nat → Int32) (sum_numbers : Nat → Int64) (y1 : Int32) (y2 : Int32) (H : Heap) (locs : List Loc) (ls : Array Slot), f_X2_atom_95 N length at_ great bytes bench_parts bench_tree_rows bench_tree_cells bench_tree_cells_n bench_starts bench_looses sum_numbers y1 y2 = some z → va_P D vwCl (ws_X2_atom cI cJ cB a0 a_waiting a_bytes a_bench a_bench_tree a_bench_tree_cells a_bench_starts a_bench_looses a_sum a_sum_numbers length waits at_ opened parens great bytes bench_parts bench_tree_rows bench_tree_cells bench_tree_cells_n bench_starts bench_looses sum_numbers) H → va_D (va_A ws0 sz) (ws_X2_atom cI cJ cB a0 a_waiting a_bytes a_bench a_bench_tree a_bench_tree_cells a_bench_starts a_bench_looses a_sum a_sum_numbers length waits at_ opened parens great bytes bench_parts bench_tree_rows bench_tree_cells bench_tree_cells_n bench_starts bench_looses sum_numbers) → va_S (va_A ws0 sz) s.heap H locs → lv_has ls 3 [(0, .ref a0), (1, .int y1), (2, .int y2)] → W p l e rm_X2_atom s m args below meth c H locs 0 0 (MQ below (gQ D sz ws0 (ws_X2_atom cI cJ cB a0 a_waiting a_bytes a_bench a_bench_tree a_bench_tree_cells a_bench_starts a_bench_looses a_sum a_sum_numbers length waits z.2.1 opened parens z.2.2.1 bytes z.2.2.2.1 z.2.2.2.2.1 z.2.2.2.2.2.1 bench_tree_cells_n z.2.2.2.2.2.2.1 z.2.2.2.2.2.2.2.1 z.2.2.2.2.2.2.2.2) (some (.int z.1))) args s 0 0 (va_A ws0 sz)) (F0 m 95 ls []) := by
  obtain ⟨F, hr, hlk, hNw⟩ := id CX
  have hx := F.1
  have hb := F.2.1
  have hown := F.2.2.2.1
  have hA : ∀ q, s.heap.size ≤ q → va_A ws0 sz q := fun q hq => Or.inr (hsz ▸ hq)
  intro at_ great bench_parts bench_tree_rows bench_tree_cells bench_starts bench_looses sum_numbers y1 y2 H locs ls h hP hD hS hl
  unfold f_X2_atom_95 at h
  refine lv_iload_n hx hb dX2_atom_95 rfl (lv_at hl 2 rfl) ?_
  refine lv_if_eq (tgt := 109) hx hb dX2_atom_96 (by decide) (fun c96 => ?_) (fun c96 => ?_)
  · have h := o_t c96 h
    exact w_X2_atom_109 CX hK hsz at_ great bench_parts bench_tree_rows bench_tree_cells bench_starts bench_looses sum_numbers y1 y2 _ _ _ h hP hD hS (lv_sub hl [0, 1, 2] rfl)
  · have h := o_f c96 h
    refine lv_aload_n hx hb dX2_atom_99 rfl (lv_at hl 0 rfl) ?_
    refine lv_dup hx hb dX2_atom_100 rfl ?_
    refine r_get F hK hP 0 6 rfl inW_X2 wm_173 rfl (by decide) rfl dX2_atom_101 ?_
    refine lv_iconst (v := 1) hx hb dX2_atom_104 (by decide) ?_
    refine lv_iadd hx hb dX2_atom_105 ?_
    refine r_put (wn := (ws_X2_atom cI cJ cB a0 a_waiting a_bytes a_bench a_bench_tree a_bench_tree_cells a_bench_starts a_bench_looses a_sum a_sum_numbers length waits (at_ + 1) opened parens great bytes bench_parts bench_tree_rows bench_tree_cells bench_tree_cells_n bench_starts bench_looses sum_numbers)) F hK hP hD hS 0 6 rfl inW_X2 wm_173 tyX2_ok nmX2 rfl rfl (by decide) rfl rfl (Nat.le_of_ble_eq_true rfl) rfl dX2_atom_106 (fun H locs hP hD hS => ?_)
    exact w_X2_atom_109 CX hK hsz (at_ + 1) great bench_parts bench_tree_rows bench_tree_cells bench_starts bench_looses sum_numbers y1 y2 _ _ _ h hP hD hS (lv_sub hl [0, 1, 2] rfl)
set_option maxHeartbeats 4000000 in
set_option maxRecDepth 100000 in
theorem w_X2_atom_82 (CX : Cx p m c cX2_atom 3 s args x0 RX2 meth (some .boolean)) (hK : va_K D vwCl (ty0 cI cJ cB) s) (hsz : s.heap.size = sz) : ∀ (at_ : Int32) (great : Int32) (bench_parts : Int32) (bench_tree_rows : Int32) (bench_tree_cells : Nat → Int32) (bench_starts : Nat → Int32) (bench_looses : Nat → Int32) (sum_numbers : Nat → Int64) (y1 : Int32) (s0 : Int32) (H : Heap) (locs : List Loc) (ls : Array Slot), f_X2_atom_82 N length at_ great bytes bench_parts bench_tree_rows bench_tree_cells bench_tree_cells_n bench_starts bench_looses sum_numbers y1 s0 = some z → va_P D vwCl (ws_X2_atom cI cJ cB a0 a_waiting a_bytes a_bench a_bench_tree a_bench_tree_cells a_bench_starts a_bench_looses a_sum a_sum_numbers length waits at_ opened parens great bytes bench_parts bench_tree_rows bench_tree_cells bench_tree_cells_n bench_starts bench_looses sum_numbers) H → va_D (va_A ws0 sz) (ws_X2_atom cI cJ cB a0 a_waiting a_bytes a_bench a_bench_tree a_bench_tree_cells a_bench_starts a_bench_looses a_sum a_sum_numbers length waits at_ opened parens great bytes bench_parts bench_tree_rows bench_tree_cells bench_tree_cells_n bench_starts bench_looses sum_numbers) → va_S (va_A ws0 sz) s.heap H locs → lv_has ls 3 [(0, .ref a0), (1, .int y1)] → W p l e rm_X2_atom s m args below meth c H locs 0 0 (MQ below (gQ D sz ws0 (ws_X2_atom cI cJ cB a0 a_waiting a_bytes a_bench a_bench_tree a_bench_tree_cells a_bench_starts a_bench_looses a_sum a_sum_numbers length waits z.2.1 opened parens z.2.2.1 bytes z.2.2.2.1 z.2.2.2.2.1 z.2.2.2.2.2.1 bench_tree_cells_n z.2.2.2.2.2.2.1 z.2.2.2.2.2.2.2.1 z.2.2.2.2.2.2.2.2) (some (.int z.1))) args s 0 0 (va_A ws0 sz)) (F0 m 82 ls [.int s0]) := by
  obtain ⟨F, hr, hlk, hNw⟩ := id CX
  have hx := F.1
  have hb := F.2.1
  have hown := F.2.2.2.1
  have hA : ∀ q, s.heap.size ≤ q → va_A ws0 sz q := fun q hq => Or.inr (hsz ▸ hq)
  intro at_ great bench_parts bench_tree_rows bench_tree_cells bench_starts bench_looses sum_numbers y1 s0 H locs ls h hP hD hS hl
  unfold f_X2_atom_82 at h
  refine lv_istore_n (lv' := [(2, .int s0), (0, .ref a0), (1, .int y1)]) hx hb dX2_atom_82 rfl hl (by decide) rfl (fun ls hl => ?_)
  refine lv_iload_n hx hb dX2_atom_83 rfl (lv_at hl 2 rfl) ?_
  refine lv_bipush (v := 33) hx hb dX2_atom_84 (by decide) ?_
  refine lv_icmp_ne (tgt := 95) hx hb dX2_atom_86 (by decide) (fun c86 => ?_) (fun c86 => ?_)
  · have h := o_f c86 h
    exact w_X2_atom_95 CX hK hsz at_ great bench_parts bench_tree_rows bench_tree_cells bench_starts bench_looses sum_numbers y1 s0 _ _ _ h hP hD hS (lv_sub hl [1, 2, 0] rfl)
  · have h := o_t c86 h
    refine lv_iload_n hx hb dX2_atom_89 rfl (lv_at hl 0 rfl) ?_
    refine lv_if_ne (tgt := 95) hx hb dX2_atom_90 (by decide) (fun c90 => ?_) (fun c90 => ?_)
    · have h := o_f c90 h
      exact w_X2_atom_95 CX hK hsz at_ great bench_parts bench_tree_rows bench_tree_cells bench_starts bench_looses sum_numbers y1 s0 _ _ _ h hP hD hS (lv_sub hl [1, 2, 0] rfl)
    · have h := o_t c90 h
      refine lv_iconst (v := 0) hx hb dX2_atom_93 (by decide) ?_
      obtain rfl := Option.some.inj h
      exact r_ret (v := 0) F hr hlk rfl dX2_atom_94 hsz hP hD hS
set_option maxHeartbeats 4000000 in
set_option maxRecDepth 100000 in
theorem w_X2_atom_81 (CX : Cx p m c cX2_atom 3 s args x0 RX2 meth (some .boolean)) (hK : va_K D vwCl (ty0 cI cJ cB) s) (hsz : s.heap.size = sz) : ∀ (at_ : Int32) (great : Int32) (bench_parts : Int32) (bench_tree_rows : Int32) (bench_tree_cells : Nat → Int32) (bench_starts : Nat → Int32) (bench_looses : Nat → Int32) (sum_numbers : Nat → Int64) (y1 : Int32) (H : Heap) (locs : List Loc) (ls : Array Slot), f_X2_atom_81 N length at_ great bytes bench_parts bench_tree_rows bench_tree_cells bench_tree_cells_n bench_starts bench_looses sum_numbers y1 = some z → va_P D vwCl (ws_X2_atom cI cJ cB a0 a_waiting a_bytes a_bench a_bench_tree a_bench_tree_cells a_bench_starts a_bench_looses a_sum a_sum_numbers length waits at_ opened parens great bytes bench_parts bench_tree_rows bench_tree_cells bench_tree_cells_n bench_starts bench_looses sum_numbers) H → va_D (va_A ws0 sz) (ws_X2_atom cI cJ cB a0 a_waiting a_bytes a_bench a_bench_tree a_bench_tree_cells a_bench_starts a_bench_looses a_sum a_sum_numbers length waits at_ opened parens great bytes bench_parts bench_tree_rows bench_tree_cells bench_tree_cells_n bench_starts bench_looses sum_numbers) → va_S (va_A ws0 sz) s.heap H locs → lv_has ls 3 [(0, .ref a0), (1, .int y1)] → W p l e rm_X2_atom s m args below meth c H locs 0 0 (MQ below (gQ D sz ws0 (ws_X2_atom cI cJ cB a0 a_waiting a_bytes a_bench a_bench_tree a_bench_tree_cells a_bench_starts a_bench_looses a_sum a_sum_numbers length waits z.2.1 opened parens z.2.2.1 bytes z.2.2.2.1 z.2.2.2.2.1 z.2.2.2.2.2.1 bench_tree_cells_n z.2.2.2.2.2.2.1 z.2.2.2.2.2.2.2.1 z.2.2.2.2.2.2.2.2) (some (.int z.1))) args s 0 0 (va_A ws0 sz)) (F0 m 81 ls []) := by
  obtain ⟨F, hr, hlk, hNw⟩ := id CX
  have hx := F.1
  have hb := F.2.1
  have hown := F.2.2.2.1
  have hA : ∀ q, s.heap.size ≤ q → va_A ws0 sz q := fun q hq => Or.inr (hsz ▸ hq)
  intro at_ great bench_parts bench_tree_rows bench_tree_cells bench_starts bench_looses sum_numbers y1 H locs ls h hP hD hS hl
  unfold f_X2_atom_81 at h
  refine lv_iconst (v := 0) hx hb dX2_atom_81 (by decide) ?_
  exact w_X2_atom_82 CX hK hsz at_ great bench_parts bench_tree_rows bench_tree_cells bench_starts bench_looses sum_numbers y1 0 _ _ _ h hP hD hS (lv_sub hl [0, 1] rfl)
set_option maxHeartbeats 4000000 in
set_option maxRecDepth 100000 in
theorem w_X2_atom_48 (CX : Cx p m c cX2_atom 3 s args x0 RX2 meth (some .boolean)) (hK : va_K D vwCl (ty0 cI cJ cB) s) (hsz : s.heap.size = sz) : ∀ (at_ : Int32) (great : Int32) (bench_parts : Int32) (bench_tree_rows : Int32) (bench_tree_cells : Nat → Int32) (bench_starts : Nat → Int32) (bench_looses : Nat → Int32) (sum_numbers : Nat → Int64) (y1 : Int32) (H : Heap) (locs : List Loc) (ls : Array Slot), f_X2_atom_48 N length at_ great bytes bench_parts bench_tree_rows bench_tree_cells bench_tree_cells_n bench_starts bench_looses sum_numbers y1 = some z → va_P D vwCl (ws_X2_atom cI cJ cB a0 a_waiting a_bytes a_bench a_bench_tree a_bench_tree_cells a_bench_starts a_bench_looses a_sum a_sum_numbers length waits at_ opened parens great bytes bench_parts bench_tree_rows bench_tree_cells bench_tree_cells_n bench_starts bench_looses sum_numbers) H → va_D (va_A ws0 sz) (ws_X2_atom cI cJ cB a0 a_waiting a_bytes a_bench a_bench_tree a_bench_tree_cells a_bench_starts a_bench_looses a_sum a_sum_numbers length waits at_ opened parens great bytes bench_parts bench_tree_rows bench_tree_cells bench_tree_cells_n bench_starts bench_looses sum_numbers) → va_S (va_A ws0 sz) s.heap H locs → lv_has ls 3 [(0, .ref a0), (1, .int y1)] → W p l e rm_X2_atom s m args below meth c H locs 0 0 (MQ below (gQ D sz ws0 (ws_X2_atom cI cJ cB a0 a_waiting a_bytes a_bench a_bench_tree a_bench_tree_cells a_bench_starts a_bench_looses a_sum a_sum_numbers length waits z.2.1 opened parens z.2.2.1 bytes z.2.2.2.1 z.2.2.2.2.1 z.2.2.2.2.2.1 bench_tree_cells_n z.2.2.2.2.2.2.1 z.2.2.2.2.2.2.2.1 z.2.2.2.2.2.2.2.2) (some (.int z.1))) args s 0 0 (va_A ws0 sz)) (F0 m 48 ls []) := by
  obtain ⟨F, hr, hlk, hNw⟩ := id CX
  have hx := F.1
  have hb := F.2.1
  have hown := F.2.2.2.1
  have hA : ∀ q, s.heap.size ≤ q → va_A ws0 sz q := fun q hq => Or.inr (hsz ▸ hq)
  intro at_ great bench_parts bench_tree_rows bench_tree_cells bench_starts bench_looses sum_numbers y1 H locs ls h hP hD hS hl
  unfold f_X2_atom_48 at h
  refine lv_aload_n hx hb dX2_atom_48 rfl (lv_at hl 0 rfl) ?_
  refine lv_dup hx hb dX2_atom_49 rfl ?_
  refine r_get F hK hP 0 6 rfl inW_X2 wm_173 rfl (by decide) rfl dX2_atom_50 ?_
  refine lv_iconst (v := 1) hx hb dX2_atom_53 (by decide) ?_
  refine lv_iadd hx hb dX2_atom_54 ?_
  refine r_put (wn := (ws_X2_atom cI cJ cB a0 a_waiting a_bytes a_bench a_bench_tree a_bench_tree_cells a_bench_starts a_bench_looses a_sum a_sum_numbers length waits (at_ + 1) opened parens great bytes bench_parts bench_tree_rows bench_tree_cells bench_tree_cells_n bench_starts bench_looses sum_numbers)) F hK hP hD hS 0 6 rfl inW_X2 wm_173 tyX2_ok nmX2 rfl rfl (by decide) rfl rfl (Nat.le_of_ble_eq_true rfl) rfl dX2_atom_55 (fun H locs hP hD hS => ?_)
  refine lv_iload_n hx hb dX2_atom_58 rfl (lv_at hl 1 rfl) ?_
  refine lv_bipush (v := 61) hx hb dX2_atom_59 (by decide) ?_
  refine lv_icmp_eq (tgt := 81) hx hb dX2_atom_61 (by decide) (fun c61 => ?_) (fun c61 => ?_)
  · have h := o_t c61 h
    exact w_X2_atom_81 CX hK hsz (at_ + 1) great bench_parts bench_tree_rows bench_tree_cells bench_starts bench_looses sum_numbers y1 _ _ _ h hP hD hS (lv_sub hl [0, 1] rfl)
  · have h := o_f c61 h
    refine lv_aload_n hx hb dX2_atom_64 rfl (lv_at hl 0 rfl) ?_
    refine lv_aload_n hx hb dX2_atom_65 rfl (lv_at hl 0 rfl) ?_
    refine r_get F hK hP 0 6 rfl inW_X2 wm_173 rfl (by decide) rfl dX2_atom_66 ?_
    obtain ⟨z69, hz69, h⟩ := o_b h
    refine k_v (wn := (ws_X2_atom cI cJ cB a0 a_waiting a_bytes a_bench a_bench_tree a_bench_tree_cells a_bench_starts a_bench_looses a_sum a_sum_numbers length waits (at_ + 1) opened parens great bytes bench_parts bench_tree_rows bench_tree_cells bench_tree_cells_n bench_starts bench_looses sum_numbers)) (As := [.int (at_ + 1)]) (rest := []) F hNw hK hP hD hS hA (c_X2_letterAt l D cI cJ cB a0 a_bench a_sum a_waiting a_bytes _ length waits (at_ + 1) opened parens great bytes (at_ + 1) N hz69) wm_642 cv_X2_letterAt [0, 1] [2, 3, 4, 5, 6, 7, 8] [7, 8, 0, 1, 2, 3, 4, 5, 6] (⟨rfl, rfl, rfl, by decide, rfl⟩ : Ix [0, 1] [2, 3, 4, 5, 6, 7, 8] [7, 8, 0, 1, 2, 3, 4, 5, 6] 9) rfl rfl rfl rfl rfl rfl ⟨rfl, rfl, by decide, by decide⟩ hl.1 rfl (Nat.le_of_ble_eq_true rfl) ⟨Nat.zero_le _, Nat.zero_le _⟩ dX2_atom_69 (fun H locs hP hD hS => ?_)
    refine lv_bipush (v := 61) hx hb dX2_atom_72 (by decide) ?_
    refine lv_icmp_ne (tgt := 81) hx hb dX2_atom_74 (by decide) (fun c74 => ?_) (fun c74 => ?_)
    · have h := o_f c74 h
      exact w_X2_atom_81 CX hK hsz (at_ + 1) great bench_parts bench_tree_rows bench_tree_cells bench_starts bench_looses sum_numbers y1 _ _ _ h hP hD hS (lv_sub hl [0, 1] rfl)
    · have h := o_t c74 h
      refine lv_iconst (v := 1) hx hb dX2_atom_77 (by decide) ?_
      refine lv_goto (tgt := 82) hx hb dX2_atom_78 (by decide) ?_
      exact w_X2_atom_82 CX hK hsz (at_ + 1) great bench_parts bench_tree_rows bench_tree_cells bench_starts bench_looses sum_numbers y1 1 _ _ _ h hP hD hS (lv_sub hl [0, 1] rfl)
end G_X2_atom
set_option maxHeartbeats 4000000 in
set_option maxRecDepth 100000 in
theorem c_X2_atom (l : Launch) (D : va_G) (cI cJ cB : ClassId) (a0 a_waiting a_bytes a_bench a_bench_tree a_bench_tree_cells a_bench_starts a_bench_looses a_sum a_sum_numbers : Nat) (sz : Nat) (length : Int32) (waits : Int32) (at_ : Int32) (opened : Int32) (parens : Int32) (great : Int32) (bytes : Nat → Int32) (bench_parts : Int32) (bench_tree_rows : Int32) (bench_tree_cells : Nat → Int32) (bench_tree_cells_n : Nat) (bench_starts : Nat → Int32) (bench_looses : Nat → Int32) (sum_numbers : Nat → Int64) (N : Nat) {z : Int32 × (Int32) × (Int32) × (Int32) × (Int32) × (Nat → Int32) × (Nat → Int32) × (Nat → Int32) × (Nat → Int64)} (h : f_X2_atom N length at_ great bytes bench_parts bench_tree_rows bench_tree_cells bench_tree_cells_n bench_starts bench_looses sum_numbers = some z) : Mg l yX2_atom cX2_atom 3 (some .boolean) rm_X2_atom D (ty0 cI cJ cB) [.ref a0] sz (ws_X2_atom cI cJ cB a0 a_waiting a_bytes a_bench a_bench_tree a_bench_tree_cells a_bench_starts a_bench_looses a_sum a_sum_numbers length waits at_ opened parens great bytes bench_parts bench_tree_rows bench_tree_cells bench_tree_cells_n bench_starts bench_looses sum_numbers) (some (.int z.1)) (ws_X2_atom cI cJ cB a0 a_waiting a_bytes a_bench a_bench_tree a_bench_tree_cells a_bench_starts a_bench_looses a_sum a_sum_numbers length waits z.2.1 opened parens z.2.2.1 bytes z.2.2.2.1 z.2.2.2.2.1 z.2.2.2.2.2.1 bench_tree_cells_n z.2.2.2.2.2.2.1 z.2.2.2.2.2.2.2.1 z.2.2.2.2.2.2.2.2) := by
  refine Mg.of (by decide) (Nat.le_of_ble_eq_true rfl) ?_
  intro p e s m below meth c CX hK hsz hP hD ls hl
  have CX : Cx p m c cX2_atom 3 s ([.ref a0] : List Value).toArray (Cond.code yX2_atom cX2_atom 3 (some .boolean)) RX2 meth (some .boolean) := CX
  obtain ⟨F, hr, hlk, hNw⟩ := id CX
  have hx := F.1
  have hb := F.2.1
  have hown := F.2.2.2.1
  have hl : lv_has ls 3 [(0, .ref a0)] := hl
  have hS : va_S (va_A (ws_X2_atom cI cJ cB a0 a_waiting a_bytes a_bench a_bench_tree a_bench_tree_cells a_bench_starts a_bench_looses a_sum a_sum_numbers length waits at_ opened parens great bytes bench_parts bench_tree_rows bench_tree_cells bench_tree_cells_n bench_starts bench_looses sum_numbers) sz) s.heap s.heap [] := va_S.rf
  have hA : ∀ q, s.heap.size ≤ q → va_A (ws_X2_atom cI cJ cB a0 a_waiting a_bytes a_bench a_bench_tree a_bench_tree_cells a_bench_starts a_bench_looses a_sum a_sum_numbers length waits at_ opened parens great bytes bench_parts bench_tree_rows bench_tree_cells bench_tree_cells_n bench_starts bench_looses sum_numbers) sz q := fun q hq => Or.inr (hsz ▸ hq)
  unfold f_X2_atom at h
  refine lv_aload_n hx hb dX2_atom_0 rfl (lv_at hl 0 rfl) ?_
  refine r_get F hK hP 0 2 rfl inW_X2 wm_168 rfl (by decide) rfl dX2_atom_1 ?_
  obtain ⟨z4, hz4, h⟩ := o_b h
  refine k_v (wn := (ws_X2_atom cI cJ cB a0 a_waiting a_bytes a_bench a_bench_tree a_bench_tree_cells a_bench_starts a_bench_looses a_sum a_sum_numbers length waits at_ opened parens great bytes bench_parts bench_tree_rows bench_tree_cells bench_tree_cells_n bench_starts bench_looses z4)) (As := []) (rest := []) F hNw hK hP hD hS hA (c_X4_empty l D cI cJ cB a_sum a_sum_numbers _ sum_numbers N hz4) wm_674 cv_X4_empty [7, 8] [0, 1, 2, 3, 4, 5, 6] [0, 1, 2, 3, 4, 5, 6, 7, 8] (⟨rfl, rfl, rfl, by decide, rfl⟩ : Ix [7, 8] [0, 1, 2, 3, 4, 5, 6] [0, 1, 2, 3, 4, 5, 6, 7, 8] 9) rfl rfl rfl rfl rfl rfl ⟨rfl, rfl, by decide, by decide⟩ hl.1 rfl (Nat.le_of_ble_eq_true rfl) ⟨Nat.zero_le _, Nat.zero_le _⟩ dX2_atom_4 (fun H locs hP hD hS => ?_)
  refine lv_aload_n hx hb dX2_atom_7 rfl (lv_at hl 0 rfl) ?_
  refine lv_iconst (v := 1) hx hb dX2_atom_8 (by decide) ?_
  obtain ⟨z9, hz9, h⟩ := o_b h
  refine k_v (wn := (ws_X2_atom cI cJ cB a0 a_waiting a_bytes a_bench a_bench_tree a_bench_tree_cells a_bench_starts a_bench_looses a_sum a_sum_numbers length waits z9.2.1 opened parens great bytes bench_parts bench_tree_rows bench_tree_cells bench_tree_cells_n bench_starts bench_looses z9.2.2)) (As := [.int 1]) (rest := []) F hNw hK hP hD hS hA (c_X2_side l D cI cJ cB a0 a_bench a_waiting a_bytes a_sum a_sum_numbers _ length waits at_ opened parens great bytes z4 1 N hz9) wm_681 cv_X2_side [0, 1, 7, 8] [2, 3, 4, 5, 6] [5, 6, 0, 1, 2, 3, 4, 7, 8] (⟨rfl, rfl, rfl, by decide, rfl⟩ : Ix [0, 1, 7, 8] [2, 3, 4, 5, 6] [5, 6, 0, 1, 2, 3, 4, 7, 8] 9) rfl rfl rfl rfl rfl rfl ⟨rfl, rfl, by decide, by decide⟩ hl.1 rfl (Nat.le_of_ble_eq_true rfl) ⟨Nat.zero_le _, Nat.zero_le _⟩ dX2_atom_9 (fun H locs hP hD hS => ?_)
  refine lv_if_ne (tgt := 17) hx hb dX2_atom_12 (by decide) (fun c12 => ?_) (fun c12 => ?_)
  · have h := o_f c12 h
    refine lv_aload_n hx hb dX2_atom_17 rfl (lv_at hl 0 rfl) ?_
    obtain ⟨z18, hz18, h⟩ := o_b h
    refine k_v (wn := (ws_X2_atom cI cJ cB a0 a_waiting a_bytes a_bench a_bench_tree a_bench_tree_cells a_bench_starts a_bench_looses a_sum a_sum_numbers length waits z18.2 opened parens great bytes bench_parts bench_tree_rows bench_tree_cells bench_tree_cells_n bench_starts bench_looses z9.2.2)) (As := []) (rest := []) F hNw hK hP hD hS hA (c_X2_nextLetter l D cI cJ cB a0 a_bench a_sum a_waiting a_bytes _ length waits z9.2.1 opened parens great bytes N hz18) wm_638 cv_X2_nextLetter [0, 1] [2, 3, 4, 5, 6, 7, 8] [7, 8, 0, 1, 2, 3, 4, 5, 6] (⟨rfl, rfl, rfl, by decide, rfl⟩ : Ix [0, 1] [2, 3, 4, 5, 6, 7, 8] [7, 8, 0, 1, 2, 3, 4, 5, 6] 9) rfl rfl rfl rfl rfl rfl ⟨rfl, rfl, by decide, by decide⟩ hl.1 rfl (Nat.le_of_ble_eq_true rfl) ⟨Nat.zero_le _, Nat.zero_le _⟩ dX2_atom_18 (fun H locs hP hD hS => ?_)
    refine lv_istore_n (lv' := [(1, .int z18.1), (0, .ref a0)]) hx hb dX2_atom_21 rfl hl (by decide) rfl (fun ls hl => ?_)
    refine lv_iload_n hx hb dX2_atom_22 rfl (lv_at hl 0 rfl) ?_
    refine lv_bipush (v := 60) hx hb dX2_atom_23 (by decide) ?_
    refine lv_icmp_eq (tgt := 48) hx hb dX2_atom_25 (by decide) (fun c25 => ?_) (fun c25 => ?_)
    · have h := o_t c25 h
      exact w_X2_atom_48 CX hK hsz z18.2 great bench_parts bench_tree_rows bench_tree_cells bench_starts bench_looses z9.2.2 z18.1 _ _ _ h hP hD hS (lv_sub hl [1, 0] rfl)
    · have h := o_f c25 h
      refine lv_iload_n hx hb dX2_atom_28 rfl (lv_at hl 0 rfl) ?_
      refine lv_bipush (v := 61) hx hb dX2_atom_29 (by decide) ?_
      refine lv_icmp_eq (tgt := 48) hx hb dX2_atom_31 (by decide) (fun c31 => ?_) (fun c31 => ?_)
      · have h := o_t c31 h
        exact w_X2_atom_48 CX hK hsz z18.2 great bench_parts bench_tree_rows bench_tree_cells bench_starts bench_looses z9.2.2 z18.1 _ _ _ h hP hD hS (lv_sub hl [1, 0] rfl)
      · have h := o_f c31 h
        refine lv_iload_n hx hb dX2_atom_34 rfl (lv_at hl 0 rfl) ?_
        refine lv_bipush (v := 33) hx hb dX2_atom_35 (by decide) ?_
        refine lv_icmp_eq (tgt := 48) hx hb dX2_atom_37 (by decide) (fun c37 => ?_) (fun c37 => ?_)
        · have h := o_t c37 h
          exact w_X2_atom_48 CX hK hsz z18.2 great bench_parts bench_tree_rows bench_tree_cells bench_starts bench_looses z9.2.2 z18.1 _ _ _ h hP hD hS (lv_sub hl [1, 0] rfl)
        · have h := o_f c37 h
          refine lv_iload_n hx hb dX2_atom_40 rfl (lv_at hl 0 rfl) ?_
          refine lv_bipush (v := 62) hx hb dX2_atom_41 (by decide) ?_
          refine lv_icmp_eq (tgt := 48) hx hb dX2_atom_43 (by decide) (fun c43 => ?_) (fun c43 => ?_)
          · have h := o_t c43 h
            exact w_X2_atom_48 CX hK hsz z18.2 great bench_parts bench_tree_rows bench_tree_cells bench_starts bench_looses z9.2.2 z18.1 _ _ _ h hP hD hS (lv_sub hl [1, 0] rfl)
          · have h := o_f c43 h
            refine lv_iconst (v := 0) hx hb dX2_atom_46 (by decide) ?_
            obtain rfl := Option.some.inj h
            exact r_ret (v := 0) F hr hlk rfl dX2_atom_47 hsz hP hD hS
  · have h := o_t c12 h
    refine lv_iconst (v := 0) hx hb dX2_atom_15 (by decide) ?_
    obtain rfl := Option.some.inj h
    exact r_ret (v := 0) F hr hlk rfl dX2_atom_16 hsz hP hD hS
section G_X2_plainUnit
abbrev ws_X2_plainUnit (cI cJ cB : ClassId) (a0 a_waiting a_bytes a_bench a_bench_tree a_bench_tree_cells a_bench_starts a_bench_looses a_sum a_sum_numbers : Nat) (length : Int32) (waits : Int32) (at_ : Int32) (opened : Int32) (parens : Int32) (great : Int32) (bytes : Nat → Int32) (bench_parts : Int32) (bench_tree_rows : Int32) (bench_tree_cells : Nat → Int32) (bench_tree_cells_n : Nat) (bench_starts : Nat → Int32) (bench_looses : Nat → Int32) (sum_numbers : Nat → Int64) : va_W := [(a0, .inr (4, [.ref a_bytes, .ref a_bench, .ref a_sum, .ref a_waiting, .int length, .int waits, .int at_, .int opened, .int parens, .int great])), (a_bytes, .inl (cB, 240, .inl bytes)), (a_bench, .inr (2, [.ref a_bench_tree, .ref a_bench_starts, .ref a_bench_looses, .int bench_parts])), (a_bench_tree, .inr (7, [.ref a_bench_tree_cells, .int bench_tree_rows])), (a_bench_tree_cells, .inl (cI, bench_tree_cells_n, .inl bench_tree_cells)), (a_bench_starts, .inl (cI, 402, .inl bench_starts)), (a_bench_looses, .inl (cI, 402, .inl bench_looses)), (a_sum, .inr (6, [.ref a_sum_numbers])), (a_sum_numbers, .inl (cJ, 9, .inr (.inl sum_numbers)))]
abbrev rm_X2_plainUnit : Room := { frames := 6, cells := 0, slots := 0, locals := 136 }
def f_X2_plainUnit_42 (N : Nat) (length : Int32) (at_ : Int32) (great : Int32) (bytes : Nat → Int32) (bench_parts : Int32) (bench_tree_rows : Int32) (bench_tree_cells : Nat → Int32) (bench_tree_cells_n : Nat) (bench_starts : Nat → Int32) (bench_looses : Nat → Int32) (sum_numbers : Nat → Int64) (s1 : Int32) : Option (Int32 × (Int32) × (Int32) × (Int32) × (Int32) × (Nat → Int32) × (Nat → Int32) × (Nat → Int32) × (Nat → Int64)) := (f_X0_push N bench_parts bench_tree_rows bench_tree_cells bench_tree_cells_n bench_starts bench_looses s1).bind (fun z42 => some (1, at_, great, z42.1, z42.2.1, z42.2.2.1, z42.2.2.2.1, z42.2.2.2.2, sum_numbers))
def f_X2_plainUnit_17 (N : Nat) (length : Int32) (at_ : Int32) (great : Int32) (bytes : Nat → Int32) (bench_parts : Int32) (bench_tree_rows : Int32) (bench_tree_cells : Nat → Int32) (bench_tree_cells_n : Nat) (bench_starts : Nat → Int32) (bench_looses : Nat → Int32) (sum_numbers : Nat → Int64) (y1 : Int32) : Option (Int32 × (Int32) × (Int32) × (Int32) × (Int32) × (Nat → Int32) × (Nat → Int32) × (Nat → Int32) × (Nat → Int64)) := ifb (y1 = 84) (f_X2_plainUnit_42 N length (at_ + 1) great bytes bench_parts bench_tree_rows bench_tree_cells bench_tree_cells_n bench_starts bench_looses sum_numbers 0) (f_X2_plainUnit_42 N length (at_ + 1) great bytes bench_parts bench_tree_rows bench_tree_cells bench_tree_cells_n bench_starts bench_looses sum_numbers 1)
def f_X2_plainUnit (N : Nat) (length : Int32) (at_ : Int32) (great : Int32) (bytes : Nat → Int32) (bench_parts : Int32) (bench_tree_rows : Int32) (bench_tree_cells : Nat → Int32) (bench_tree_cells_n : Nat) (bench_starts : Nat → Int32) (bench_looses : Nat → Int32) (sum_numbers : Nat → Int64) : Option (Int32 × (Int32) × (Int32) × (Int32) × (Int32) × (Nat → Int32) × (Nat → Int32) × (Nat → Int32) × (Nat → Int64)) := (f_X2_nextLetter N length at_ bytes).bind (fun z1 => ifb (z1.1 = 84) (f_X2_plainUnit_17 N length z1.2 great bytes bench_parts bench_tree_rows bench_tree_cells bench_tree_cells_n bench_starts bench_looses sum_numbers z1.1) (ifb (z1.1 = 70) (f_X2_plainUnit_17 N length z1.2 great bytes bench_parts bench_tree_rows bench_tree_cells bench_tree_cells_n bench_starts bench_looses sum_numbers z1.1) ((f_X2_atom N length z1.2 great bytes bench_parts bench_tree_rows bench_tree_cells bench_tree_cells_n bench_starts bench_looses sum_numbers).bind (fun z48 => ckp (z48.1 = 0 ∨ z48.1 = 1) (some (z48.1, z48.2.1, z48.2.2.1, z48.2.2.2.1, z48.2.2.2.2.1, z48.2.2.2.2.2.1, z48.2.2.2.2.2.2.1, z48.2.2.2.2.2.2.2.1, z48.2.2.2.2.2.2.2.2))))))
variable {p : Program} {l : Launch} {e : Env} {s : State} {m : MethodId} {below : List Frame} {meth : Method} {c : Code} {args : Array Value} {x0 : Cond} {D : va_G} {cI cJ cB : ClassId} {sz N : Nat} {ws0 : va_W} {a0 a_waiting a_bytes a_bench a_bench_tree a_bench_tree_cells a_bench_starts a_bench_looses a_sum a_sum_numbers : Nat} {length : Int32} {waits : Int32} {opened : Int32} {parens : Int32} {bytes : Nat → Int32} {bench_tree_cells_n : Nat} {z : Int32 × (Int32) × (Int32) × (Int32) × (Int32) × (Nat → Int32) × (Nat → Int32) × (Nat → Int32) × (Nat → Int64)}
set_option maxHeartbeats 4000000 in
set_option maxRecDepth 100000 in
theorem w_X2_plainUnit_42 (CX : Cx p m c cX2_plainUnit 2 s args x0 RX2 meth (some .boolean)) (hK : va_K D vwCl (ty0 cI cJ cB) s) (hsz : s.heap.size = sz) : ∀ (at_ : Int32) (great : Int32) (bench_parts : Int32) (bench_tree_rows : Int32) (bench_tree_cells : Nat → Int32) (bench_starts : Nat → Int32) (bench_looses : Nat → Int32) (sum_numbers : Nat → Int64) (s1 : Int32) (H : Heap) (locs : List Loc) (ls : Array Slot), f_X2_plainUnit_42 N length at_ great bytes bench_parts bench_tree_rows bench_tree_cells bench_tree_cells_n bench_starts bench_looses sum_numbers s1 = some z → va_P D vwCl (ws_X2_plainUnit cI cJ cB a0 a_waiting a_bytes a_bench a_bench_tree a_bench_tree_cells a_bench_starts a_bench_looses a_sum a_sum_numbers length waits at_ opened parens great bytes bench_parts bench_tree_rows bench_tree_cells bench_tree_cells_n bench_starts bench_looses sum_numbers) H → va_D (va_A ws0 sz) (ws_X2_plainUnit cI cJ cB a0 a_waiting a_bytes a_bench a_bench_tree a_bench_tree_cells a_bench_starts a_bench_looses a_sum a_sum_numbers length waits at_ opened parens great bytes bench_parts bench_tree_rows bench_tree_cells bench_tree_cells_n bench_starts bench_looses sum_numbers) → va_S (va_A ws0 sz) s.heap H locs → lv_has ls 2 [] → W p l e rm_X2_plainUnit s m args below meth c H locs 0 0 (MQ below (gQ D sz ws0 (ws_X2_plainUnit cI cJ cB a0 a_waiting a_bytes a_bench a_bench_tree a_bench_tree_cells a_bench_starts a_bench_looses a_sum a_sum_numbers length waits z.2.1 opened parens z.2.2.1 bytes z.2.2.2.1 z.2.2.2.2.1 z.2.2.2.2.2.1 bench_tree_cells_n z.2.2.2.2.2.2.1 z.2.2.2.2.2.2.2.1 z.2.2.2.2.2.2.2.2) (some (.int z.1))) args s 0 0 (va_A ws0 sz)) (F0 m 42 ls [.int s1, .ref a_bench]) := by
  obtain ⟨F, hr, hlk, hNw⟩ := id CX
  have hx := F.1
  have hb := F.2.1
  have hown := F.2.2.2.1
  have hA : ∀ q, s.heap.size ≤ q → va_A ws0 sz q := fun q hq => Or.inr (hsz ▸ hq)
  intro at_ great bench_parts bench_tree_rows bench_tree_cells bench_starts bench_looses sum_numbers s1 H locs ls h hP hD hS hl
  unfold f_X2_plainUnit_42 at h
  obtain ⟨z42, hz42, h⟩ := o_b h
  refine k_v (wn := (ws_X2_plainUnit cI cJ cB a0 a_waiting a_bytes a_bench a_bench_tree a_bench_tree_cells a_bench_starts a_bench_looses a_sum a_sum_numbers length waits at_ opened parens great bytes z42.1 z42.2.1 z42.2.2.1 bench_tree_cells_n z42.2.2.2.1 z42.2.2.2.2 sum_numbers)) (As := [.int s1]) (rest := []) F hNw hK hP hD hS hA (c_X0_push l D cI cJ cB a_bench a_bench_tree a_bench_tree_cells a_bench_starts a_bench_looses _ bench_parts bench_tree_rows bench_tree_cells bench_tree_cells_n bench_starts bench_looses s1 N hz42) wm_661 cv_X0_push [2, 3, 4, 5, 6] [0, 1, 7, 8] [0, 1, 4, 5, 6, 7, 8, 2, 3] (⟨rfl, rfl, rfl, by decide, rfl⟩ : Ix [2, 3, 4, 5, 6] [0, 1, 7, 8] [0, 1, 4, 5, 6, 7, 8, 2, 3] 9) rfl rfl rfl rfl rfl rfl ⟨rfl, rfl, by decide, by decide⟩ hl.1 rfl (Nat.le_of_ble_eq_true rfl) ⟨Nat.zero_le _, Nat.zero_le _⟩ dX2_plainUnit_42 (fun H locs hP hD hS => ?_)
  refine lv_iconst (v := 1) hx hb dX2_plainUnit_45 (by decide) ?_
  obtain rfl := Option.some.inj h
  exact r_ret (v := 1) F hr hlk rfl dX2_plainUnit_46 hsz hP hD hS
set_option maxHeartbeats 4000000 in
set_option maxRecDepth 100000 in
theorem w_X2_plainUnit_17 (CX : Cx p m c cX2_plainUnit 2 s args x0 RX2 meth (some .boolean)) (hK : va_K D vwCl (ty0 cI cJ cB) s) (hsz : s.heap.size = sz) : ∀ (at_ : Int32) (great : Int32) (bench_parts : Int32) (bench_tree_rows : Int32) (bench_tree_cells : Nat → Int32) (bench_starts : Nat → Int32) (bench_looses : Nat → Int32) (sum_numbers : Nat → Int64) (y1 : Int32) (H : Heap) (locs : List Loc) (ls : Array Slot), f_X2_plainUnit_17 N length at_ great bytes bench_parts bench_tree_rows bench_tree_cells bench_tree_cells_n bench_starts bench_looses sum_numbers y1 = some z → va_P D vwCl (ws_X2_plainUnit cI cJ cB a0 a_waiting a_bytes a_bench a_bench_tree a_bench_tree_cells a_bench_starts a_bench_looses a_sum a_sum_numbers length waits at_ opened parens great bytes bench_parts bench_tree_rows bench_tree_cells bench_tree_cells_n bench_starts bench_looses sum_numbers) H → va_D (va_A ws0 sz) (ws_X2_plainUnit cI cJ cB a0 a_waiting a_bytes a_bench a_bench_tree a_bench_tree_cells a_bench_starts a_bench_looses a_sum a_sum_numbers length waits at_ opened parens great bytes bench_parts bench_tree_rows bench_tree_cells bench_tree_cells_n bench_starts bench_looses sum_numbers) → va_S (va_A ws0 sz) s.heap H locs → lv_has ls 2 [(0, .ref a0), (1, .int y1)] → W p l e rm_X2_plainUnit s m args below meth c H locs 0 0 (MQ below (gQ D sz ws0 (ws_X2_plainUnit cI cJ cB a0 a_waiting a_bytes a_bench a_bench_tree a_bench_tree_cells a_bench_starts a_bench_looses a_sum a_sum_numbers length waits z.2.1 opened parens z.2.2.1 bytes z.2.2.2.1 z.2.2.2.2.1 z.2.2.2.2.2.1 bench_tree_cells_n z.2.2.2.2.2.2.1 z.2.2.2.2.2.2.2.1 z.2.2.2.2.2.2.2.2) (some (.int z.1))) args s 0 0 (va_A ws0 sz)) (F0 m 17 ls []) := by
  obtain ⟨F, hr, hlk, hNw⟩ := id CX
  have hx := F.1
  have hb := F.2.1
  have hown := F.2.2.2.1
  have hA : ∀ q, s.heap.size ≤ q → va_A ws0 sz q := fun q hq => Or.inr (hsz ▸ hq)
  intro at_ great bench_parts bench_tree_rows bench_tree_cells bench_starts bench_looses sum_numbers y1 H locs ls h hP hD hS hl
  unfold f_X2_plainUnit_17 at h
  refine lv_aload_n hx hb dX2_plainUnit_17 rfl (lv_at hl 0 rfl) ?_
  refine lv_dup hx hb dX2_plainUnit_18 rfl ?_
  refine r_get F hK hP 0 6 rfl inW_X2 wm_173 rfl (by decide) rfl dX2_plainUnit_19 ?_
  refine lv_iconst (v := 1) hx hb dX2_plainUnit_22 (by decide) ?_
  refine lv_iadd hx hb dX2_plainUnit_23 ?_
  refine r_put (wn := (ws_X2_plainUnit cI cJ cB a0 a_waiting a_bytes a_bench a_bench_tree a_bench_tree_cells a_bench_starts a_bench_looses a_sum a_sum_numbers length waits (at_ + 1) opened parens great bytes bench_parts bench_tree_rows bench_tree_cells bench_tree_cells_n bench_starts bench_looses sum_numbers)) F hK hP hD hS 0 6 rfl inW_X2 wm_173 tyX2_ok nmX2 rfl rfl (by decide) rfl rfl (Nat.le_of_ble_eq_true rfl) rfl dX2_plainUnit_24 (fun H locs hP hD hS => ?_)
  refine lv_aload_n hx hb dX2_plainUnit_27 rfl (lv_at hl 0 rfl) ?_
  refine r_get F hK hP 0 1 rfl inW_X2 wm_166 rfl (by decide) rfl dX2_plainUnit_28 ?_
  refine lv_iload_n hx hb dX2_plainUnit_31 rfl (lv_at hl 1 rfl) ?_
  refine lv_bipush (v := 84) hx hb dX2_plainUnit_32 (by decide) ?_
  refine lv_icmp_ne (tgt := 41) hx hb dX2_plainUnit_34 (by decide) (fun c34 => ?_) (fun c34 => ?_)
  · have h := o_f c34 h
    refine lv_iconst (v := 1) hx hb dX2_plainUnit_41 (by decide) ?_
    exact w_X2_plainUnit_42 CX hK hsz (at_ + 1) great bench_parts bench_tree_rows bench_tree_cells bench_starts bench_looses sum_numbers 1 _ _ _ h hP hD hS (lv_sub hl [] rfl)
  · have h := o_t c34 h
    refine lv_iconst (v := 0) hx hb dX2_plainUnit_37 (by decide) ?_
    refine lv_goto (tgt := 42) hx hb dX2_plainUnit_38 (by decide) ?_
    exact w_X2_plainUnit_42 CX hK hsz (at_ + 1) great bench_parts bench_tree_rows bench_tree_cells bench_starts bench_looses sum_numbers 0 _ _ _ h hP hD hS (lv_sub hl [] rfl)
end G_X2_plainUnit
set_option maxHeartbeats 4000000 in
set_option maxRecDepth 100000 in
theorem c_X2_plainUnit (l : Launch) (D : va_G) (cI cJ cB : ClassId) (a0 a_waiting a_bytes a_bench a_bench_tree a_bench_tree_cells a_bench_starts a_bench_looses a_sum a_sum_numbers : Nat) (sz : Nat) (length : Int32) (waits : Int32) (at_ : Int32) (opened : Int32) (parens : Int32) (great : Int32) (bytes : Nat → Int32) (bench_parts : Int32) (bench_tree_rows : Int32) (bench_tree_cells : Nat → Int32) (bench_tree_cells_n : Nat) (bench_starts : Nat → Int32) (bench_looses : Nat → Int32) (sum_numbers : Nat → Int64) (N : Nat) {z : Int32 × (Int32) × (Int32) × (Int32) × (Int32) × (Nat → Int32) × (Nat → Int32) × (Nat → Int32) × (Nat → Int64)} (h : f_X2_plainUnit N length at_ great bytes bench_parts bench_tree_rows bench_tree_cells bench_tree_cells_n bench_starts bench_looses sum_numbers = some z) : Mg l yX2_plainUnit cX2_plainUnit 2 (some .boolean) rm_X2_plainUnit D (ty0 cI cJ cB) [.ref a0] sz (ws_X2_plainUnit cI cJ cB a0 a_waiting a_bytes a_bench a_bench_tree a_bench_tree_cells a_bench_starts a_bench_looses a_sum a_sum_numbers length waits at_ opened parens great bytes bench_parts bench_tree_rows bench_tree_cells bench_tree_cells_n bench_starts bench_looses sum_numbers) (some (.int z.1)) (ws_X2_plainUnit cI cJ cB a0 a_waiting a_bytes a_bench a_bench_tree a_bench_tree_cells a_bench_starts a_bench_looses a_sum a_sum_numbers length waits z.2.1 opened parens z.2.2.1 bytes z.2.2.2.1 z.2.2.2.2.1 z.2.2.2.2.2.1 bench_tree_cells_n z.2.2.2.2.2.2.1 z.2.2.2.2.2.2.2.1 z.2.2.2.2.2.2.2.2) := by
  refine Mg.of (by decide) (Nat.le_of_ble_eq_true rfl) ?_
  intro p e s m below meth c CX hK hsz hP hD ls hl
  have CX : Cx p m c cX2_plainUnit 2 s ([.ref a0] : List Value).toArray (Cond.code yX2_plainUnit cX2_plainUnit 2 (some .boolean)) RX2 meth (some .boolean) := CX
  obtain ⟨F, hr, hlk, hNw⟩ := id CX
  have hx := F.1
  have hb := F.2.1
  have hown := F.2.2.2.1
  have hl : lv_has ls 2 [(0, .ref a0)] := hl
  have hS : va_S (va_A (ws_X2_plainUnit cI cJ cB a0 a_waiting a_bytes a_bench a_bench_tree a_bench_tree_cells a_bench_starts a_bench_looses a_sum a_sum_numbers length waits at_ opened parens great bytes bench_parts bench_tree_rows bench_tree_cells bench_tree_cells_n bench_starts bench_looses sum_numbers) sz) s.heap s.heap [] := va_S.rf
  have hA : ∀ q, s.heap.size ≤ q → va_A (ws_X2_plainUnit cI cJ cB a0 a_waiting a_bytes a_bench a_bench_tree a_bench_tree_cells a_bench_starts a_bench_looses a_sum a_sum_numbers length waits at_ opened parens great bytes bench_parts bench_tree_rows bench_tree_cells bench_tree_cells_n bench_starts bench_looses sum_numbers) sz q := fun q hq => Or.inr (hsz ▸ hq)
  unfold f_X2_plainUnit at h
  refine lv_aload_n hx hb dX2_plainUnit_0 rfl (lv_at hl 0 rfl) ?_
  obtain ⟨z1, hz1, h⟩ := o_b h
  refine k_v (wn := (ws_X2_plainUnit cI cJ cB a0 a_waiting a_bytes a_bench a_bench_tree a_bench_tree_cells a_bench_starts a_bench_looses a_sum a_sum_numbers length waits z1.2 opened parens great bytes bench_parts bench_tree_rows bench_tree_cells bench_tree_cells_n bench_starts bench_looses sum_numbers)) (As := []) (rest := []) F hNw hK hP hD hS hA (c_X2_nextLetter l D cI cJ cB a0 a_bench a_sum a_waiting a_bytes _ length waits at_ opened parens great bytes N hz1) wm_638 cv_X2_nextLetter [0, 1] [2, 3, 4, 5, 6, 7, 8] [7, 8, 0, 1, 2, 3, 4, 5, 6] (⟨rfl, rfl, rfl, by decide, rfl⟩ : Ix [0, 1] [2, 3, 4, 5, 6, 7, 8] [7, 8, 0, 1, 2, 3, 4, 5, 6] 9) rfl rfl rfl rfl rfl rfl ⟨rfl, rfl, by decide, by decide⟩ hl.1 rfl (Nat.le_of_ble_eq_true rfl) ⟨Nat.zero_le _, Nat.zero_le _⟩ dX2_plainUnit_1 (fun H locs hP hD hS => ?_)
  refine lv_istore_n (lv' := [(1, .int z1.1), (0, .ref a0)]) hx hb dX2_plainUnit_4 rfl hl (by decide) rfl (fun ls hl => ?_)
  refine lv_iload_n hx hb dX2_plainUnit_5 rfl (lv_at hl 0 rfl) ?_
  refine lv_bipush (v := 84) hx hb dX2_plainUnit_6 (by decide) ?_
  refine lv_icmp_eq (tgt := 17) hx hb dX2_plainUnit_8 (by decide) (fun c8 => ?_) (fun c8 => ?_)
  · have h := o_t c8 h
    exact w_X2_plainUnit_17 CX hK hsz z1.2 great bench_parts bench_tree_rows bench_tree_cells bench_starts bench_looses sum_numbers z1.1 _ _ _ h hP hD hS (lv_sub hl [1, 0] rfl)
  · have h := o_f c8 h
    refine lv_iload_n hx hb dX2_plainUnit_11 rfl (lv_at hl 0 rfl) ?_
    refine lv_bipush (v := 70) hx hb dX2_plainUnit_12 (by decide) ?_
    refine lv_icmp_ne (tgt := 47) hx hb dX2_plainUnit_14 (by decide) (fun c14 => ?_) (fun c14 => ?_)
    · have h := o_f c14 h
      refine lv_aload_n hx hb dX2_plainUnit_47 rfl (lv_at hl 1 rfl) ?_
      obtain ⟨z48, hz48, h⟩ := o_b h
      refine k_v (wn := (ws_X2_plainUnit cI cJ cB a0 a_waiting a_bytes a_bench a_bench_tree a_bench_tree_cells a_bench_starts a_bench_looses a_sum a_sum_numbers length waits z48.2.1 opened parens z48.2.2.1 bytes z48.2.2.2.1 z48.2.2.2.2.1 z48.2.2.2.2.2.1 bench_tree_cells_n z48.2.2.2.2.2.2.1 z48.2.2.2.2.2.2.2.1 z48.2.2.2.2.2.2.2.2)) (As := []) (rest := []) F hNw hK hP hD hS hA (c_X2_atom l D cI cJ cB a0 a_waiting a_bytes a_bench a_bench_tree a_bench_tree_cells a_bench_starts a_bench_looses a_sum a_sum_numbers _ length waits z1.2 opened parens great bytes bench_parts bench_tree_rows bench_tree_cells bench_tree_cells_n bench_starts bench_looses sum_numbers N hz48) wm_670 cv_X2_atom [0, 1, 2, 3, 4, 5, 6, 7, 8] [] [0, 1, 2, 3, 4, 5, 6, 7, 8] (⟨rfl, rfl, rfl, by decide, rfl⟩ : Ix [0, 1, 2, 3, 4, 5, 6, 7, 8] [] [0, 1, 2, 3, 4, 5, 6, 7, 8] 9) rfl rfl rfl rfl rfl rfl ⟨rfl, rfl, by decide, by decide⟩ hl.1 rfl (Nat.le_of_ble_eq_true rfl) ⟨Nat.zero_le _, Nat.zero_le _⟩ dX2_plainUnit_48 (fun H locs hP hD hS => ?_)
      obtain ⟨hc51, h⟩ := o_c h
      obtain rfl := Option.some.inj h
      exact r_ret (v := z48.1) F hr hlk (nb01 hc51) dX2_plainUnit_51 hsz hP hD hS
    · have h := o_t c14 h
      exact w_X2_plainUnit_17 CX hK hsz z1.2 great bench_parts bench_tree_rows bench_tree_cells bench_starts bench_looses sum_numbers z1.1 _ _ _ h hP hD hS (lv_sub hl [1, 0] rfl)
section G_X2_parse
abbrev ws_X2_parse (cI cJ cB : ClassId) (a0 a_bytes a_bench a_bench_tree a_bench_tree_cells a_bench_starts a_bench_looses a_sum a_sum_numbers a_waiting : Nat) (length : Int32) (waits : Int32) (at_ : Int32) (opened : Int32) (parens : Int32) (great : Int32) (bytes : Nat → Int32) (bench_parts : Int32) (bench_tree_rows : Int32) (bench_tree_cells : Nat → Int32) (bench_tree_cells_n : Nat) (bench_starts : Nat → Int32) (bench_looses : Nat → Int32) (sum_numbers : Nat → Int64) (waiting : Nat → Int32) : va_W := [(a0, .inr (4, [.ref a_bytes, .ref a_bench, .ref a_sum, .ref a_waiting, .int length, .int waits, .int at_, .int opened, .int parens, .int great])), (a_bytes, .inl (cB, 240, .inl bytes)), (a_bench, .inr (2, [.ref a_bench_tree, .ref a_bench_starts, .ref a_bench_looses, .int bench_parts])), (a_bench_tree, .inr (7, [.ref a_bench_tree_cells, .int bench_tree_rows])), (a_bench_tree_cells, .inl (cI, bench_tree_cells_n, .inl bench_tree_cells)), (a_bench_starts, .inl (cI, 402, .inl bench_starts)), (a_bench_looses, .inl (cI, 402, .inl bench_looses)), (a_sum, .inr (6, [.ref a_sum_numbers])), (a_sum_numbers, .inl (cJ, 9, .inr (.inl sum_numbers))), (a_waiting, .inl (cI, 240, .inl waiting))]
abbrev rm_X2_parse : Room := { frames := 7, cells := 0, slots := 0, locals := 162 }
def f_X2_parse_62 (N : Nat) (length : Int32) (waits : Int32) (at_ : Int32) (opened : Int32) (parens : Int32) (great : Int32) (bytes : Nat → Int32) (bench_parts : Int32) (bench_tree_rows : Int32) (bench_tree_cells : Nat → Int32) (bench_tree_cells_n : Nat) (bench_starts : Nat → Int32) (bench_looses : Nat → Int32) (sum_numbers : Nat → Int64) (waiting : Nat → Int32) : Option (Int32 × (Int32) × (Int32) × (Int32) × (Int32) × (Int32) × (Int32) × (Int32) × (Nat → Int32) × (Nat → Int32) × (Nat → Int32) × (Nat → Int64) × (Nat → Int32)) := some (at_, waits, at_, opened, parens, great, bench_parts, bench_tree_rows, bench_tree_cells, bench_starts, bench_looses, sum_numbers, waiting)
def f_X2_parse_34 (N : Nat) : Nat → Int32 → Int32 → Int32 → Int32 → Int32 → Int32 → (Nat → Int32) → Int32 → Int32 → (Nat → Int32) → Nat → (Nat → Int32) → (Nat → Int32) → (Nat → Int64) → (Nat → Int32) → Int32 → Option (Int32 × (Int32) × (Int32) × (Int32) × (Int32) × (Int32) × (Int32) × (Int32) × (Nat → Int32) × (Nat → Int32) × (Nat → Int32) × (Nat → Int64) × (Nat → Int32))
  | 0 => fun _ _ _ _ _ _ _ _ _ _ _ _ _ _ _ _ => none
  | n + 1 => fun length waits at_ opened parens great bytes bench_parts bench_tree_rows bench_tree_cells bench_tree_cells_n bench_starts bench_looses sum_numbers waiting y1 => ifb (240 < y1) (some (at_, waits, at_, opened, parens, great, bench_parts, bench_tree_rows, bench_tree_cells, bench_starts, bench_looses, sum_numbers, waiting)) ((f_X2_openings N length waits at_ opened parens bytes waiting).bind (fun z42 => ifb (z42.1 = 0) (f_X2_parse_62 N length z42.2.1 z42.2.2.1 z42.2.2.2.1 z42.2.2.2.2.1 great bytes bench_parts bench_tree_rows bench_tree_cells bench_tree_cells_n bench_starts bench_looses sum_numbers z42.2.2.2.2.2) ((f_X2_plainUnit N length z42.2.2.1 great bytes bench_parts bench_tree_rows bench_tree_cells bench_tree_cells_n bench_starts bench_looses sum_numbers).bind (fun z49 => ifb (z49.1 = 0) (f_X2_parse_62 N length z42.2.1 z49.2.1 z42.2.2.2.1 z42.2.2.2.2.1 z49.2.2.1 bytes z49.2.2.2.1 z49.2.2.2.2.1 z49.2.2.2.2.2.1 bench_tree_cells_n z49.2.2.2.2.2.2.1 z49.2.2.2.2.2.2.2.1 z49.2.2.2.2.2.2.2.2 z42.2.2.2.2.2) ((f_X2_endings N length z42.2.1 z49.2.1 z42.2.2.2.1 z42.2.2.2.2.1 bytes z49.2.2.2.1 z49.2.2.2.2.1 z49.2.2.2.2.2.1 bench_tree_cells_n z49.2.2.2.2.2.2.1 z49.2.2.2.2.2.2.2.1 z42.2.2.2.2.2).bind (fun z56 => ifb (z56.1 = 0) (f_X2_parse_62 N length z56.2.1 z56.2.2.1 z56.2.2.2.1 z56.2.2.2.2.1 z49.2.2.1 bytes z56.2.2.2.2.2.1 z56.2.2.2.2.2.2.1 z56.2.2.2.2.2.2.2.1 bench_tree_cells_n z49.2.2.2.2.2.2.1 z56.2.2.2.2.2.2.2.2 z49.2.2.2.2.2.2.2.2 z42.2.2.2.2.2) (ifb (z56.2.2.1 < length) ((f_X2_connective N length z56.2.1 z56.2.2.1 z56.2.2.2.1 bytes z56.2.2.2.2.2.1 z56.2.2.2.2.2.2.1 z56.2.2.2.2.2.2.2.1 bench_tree_cells_n z49.2.2.2.2.2.2.1 z56.2.2.2.2.2.2.2.2 z42.2.2.2.2.2).bind (fun z84 => ifb (z84.1 = 0) (some (z84.2.2.1, z84.2.1, z84.2.2.1, z84.2.2.2.1, z56.2.2.2.2.1, z49.2.2.1, z84.2.2.2.2.1, z84.2.2.2.2.2.1, z84.2.2.2.2.2.2.1, z49.2.2.2.2.2.2.1, z84.2.2.2.2.2.2.2.1, z49.2.2.2.2.2.2.2.2, z84.2.2.2.2.2.2.2.2)) (f_X2_parse_34 N n length z84.2.1 z84.2.2.1 z84.2.2.2.1 z56.2.2.2.2.1 z49.2.2.1 bytes z84.2.2.2.2.1 z84.2.2.2.2.2.1 z84.2.2.2.2.2.2.1 bench_tree_cells_n z49.2.2.2.2.2.2.1 z84.2.2.2.2.2.2.2.1 z49.2.2.2.2.2.2.2.2 z84.2.2.2.2.2.2.2.2 (y1 + 1)))) ((f_X2_finish N z56.2.1 z56.2.2.1 z56.2.2.2.1 z56.2.2.2.2.1 z49.2.2.1 z56.2.2.2.2.2.1 z56.2.2.2.2.2.2.1 z56.2.2.2.2.2.2.2.1 bench_tree_cells_n z49.2.2.2.2.2.2.1 z56.2.2.2.2.2.2.2.2 z42.2.2.2.2.2).bind (fun z79 => some (z79.1, z79.2.1, z56.2.2.1, z79.2.2.1, z56.2.2.2.2.1, z49.2.2.1, z79.2.2.2.1, z79.2.2.2.2.1, z79.2.2.2.2.2.1, z49.2.2.2.2.2.2.1, z79.2.2.2.2.2.2, z49.2.2.2.2.2.2.2.2, z42.2.2.2.2.2))))))))))
def f_X2_parse (N : Nat) (length : Int32) (waits : Int32) (at_ : Int32) (opened : Int32) (parens : Int32) (great : Int32) (bytes : Nat → Int32) (bench_parts : Int32) (bench_tree_rows : Int32) (bench_tree_cells : Nat → Int32) (bench_tree_cells_n : Nat) (bench_starts : Nat → Int32) (bench_looses : Nat → Int32) (sum_numbers : Nat → Int64) (waiting : Nat → Int32) : Option (Int32 × (Int32) × (Int32) × (Int32) × (Int32) × (Int32) × (Int32) × (Int32) × (Nat → Int32) × (Nat → Int32) × (Nat → Int32) × (Nat → Int64) × (Nat → Int32)) := (f_X0_begin N bench_parts bench_tree_rows).bind (fun z4 => f_X2_parse_34 N N length 0 0 0 0 0 bytes z4.1 z4.2 bench_tree_cells bench_tree_cells_n bench_starts bench_looses sum_numbers waiting 0)
variable {p : Program} {l : Launch} {e : Env} {s : State} {m : MethodId} {below : List Frame} {meth : Method} {c : Code} {args : Array Value} {x0 : Cond} {D : va_G} {cI cJ cB : ClassId} {sz N : Nat} {ws0 : va_W} {a0 a_bytes a_bench a_bench_tree a_bench_tree_cells a_bench_starts a_bench_looses a_sum a_sum_numbers a_waiting : Nat} {length : Int32} {bytes : Nat → Int32} {bench_tree_cells_n : Nat} {z : Int32 × (Int32) × (Int32) × (Int32) × (Int32) × (Int32) × (Int32) × (Int32) × (Nat → Int32) × (Nat → Int32) × (Nat → Int32) × (Nat → Int64) × (Nat → Int32)}
set_option maxHeartbeats 4000000 in
set_option maxRecDepth 100000 in
theorem w_X2_parse_62 (CX : Cx p m c cX2_parse 2 s args x0 RX2 meth (some .int)) (hK : va_K D vwCl (ty0 cI cJ cB) s) (hsz : s.heap.size = sz) : ∀ (waits : Int32) (at_ : Int32) (opened : Int32) (parens : Int32) (great : Int32) (bench_parts : Int32) (bench_tree_rows : Int32) (bench_tree_cells : Nat → Int32) (bench_starts : Nat → Int32) (bench_looses : Nat → Int32) (sum_numbers : Nat → Int64) (waiting : Nat → Int32) (H : Heap) (locs : List Loc) (ls : Array Slot), f_X2_parse_62 N length waits at_ opened parens great bytes bench_parts bench_tree_rows bench_tree_cells bench_tree_cells_n bench_starts bench_looses sum_numbers waiting = some z → va_P D vwCl (ws_X2_parse cI cJ cB a0 a_bytes a_bench a_bench_tree a_bench_tree_cells a_bench_starts a_bench_looses a_sum a_sum_numbers a_waiting length waits at_ opened parens great bytes bench_parts bench_tree_rows bench_tree_cells bench_tree_cells_n bench_starts bench_looses sum_numbers waiting) H → va_D (va_A ws0 sz) (ws_X2_parse cI cJ cB a0 a_bytes a_bench a_bench_tree a_bench_tree_cells a_bench_starts a_bench_looses a_sum a_sum_numbers a_waiting length waits at_ opened parens great bytes bench_parts bench_tree_rows bench_tree_cells bench_tree_cells_n bench_starts bench_looses sum_numbers waiting) → va_S (va_A ws0 sz) s.heap H locs → lv_has ls 2 [(0, .ref a0)] → W p l e rm_X2_parse s m args below meth c H locs 0 0 (MQ below (gQ D sz ws0 (ws_X2_parse cI cJ cB a0 a_bytes a_bench a_bench_tree a_bench_tree_cells a_bench_starts a_bench_looses a_sum a_sum_numbers a_waiting length z.2.1 z.2.2.1 z.2.2.2.1 z.2.2.2.2.1 z.2.2.2.2.2.1 bytes z.2.2.2.2.2.2.1 z.2.2.2.2.2.2.2.1 z.2.2.2.2.2.2.2.2.1 bench_tree_cells_n z.2.2.2.2.2.2.2.2.2.1 z.2.2.2.2.2.2.2.2.2.2.1 z.2.2.2.2.2.2.2.2.2.2.2.1 z.2.2.2.2.2.2.2.2.2.2.2.2) (some (.int z.1))) args s 0 0 (va_A ws0 sz)) (F0 m 62 ls []) := by
  obtain ⟨F, hr, hlk, hNw⟩ := id CX
  have hx := F.1
  have hb := F.2.1
  have hown := F.2.2.2.1
  have hA : ∀ q, s.heap.size ≤ q → va_A ws0 sz q := fun q hq => Or.inr (hsz ▸ hq)
  intro waits at_ opened parens great bench_parts bench_tree_rows bench_tree_cells bench_starts bench_looses sum_numbers waiting H locs ls h hP hD hS hl
  unfold f_X2_parse_62 at h
  refine lv_aload_n hx hb dX2_parse_62 rfl (lv_at hl 0 rfl) ?_
  refine r_get F hK hP 0 6 rfl inW_X2 wm_173 rfl (by decide) rfl dX2_parse_63 ?_
  obtain rfl := Option.some.inj h
  exact r_ret (v := at_) F hr hlk rfl dX2_parse_66 hsz hP hD hS
set_option maxHeartbeats 4000000 in
set_option maxRecDepth 100000 in
theorem w_X2_parse_34 (CX : Cx p m c cX2_parse 2 s args x0 RX2 meth (some .int)) (hK : va_K D vwCl (ty0 cI cJ cB) s) (hsz : s.heap.size = sz) : ∀ (n : Nat), ∀ (waits : Int32) (at_ : Int32) (opened : Int32) (parens : Int32) (great : Int32) (bench_parts : Int32) (bench_tree_rows : Int32) (bench_tree_cells : Nat → Int32) (bench_starts : Nat → Int32) (bench_looses : Nat → Int32) (sum_numbers : Nat → Int64) (waiting : Nat → Int32) (y1 : Int32) (H : Heap) (locs : List Loc) (ls : Array Slot), f_X2_parse_34 N n length waits at_ opened parens great bytes bench_parts bench_tree_rows bench_tree_cells bench_tree_cells_n bench_starts bench_looses sum_numbers waiting y1 = some z → va_P D vwCl (ws_X2_parse cI cJ cB a0 a_bytes a_bench a_bench_tree a_bench_tree_cells a_bench_starts a_bench_looses a_sum a_sum_numbers a_waiting length waits at_ opened parens great bytes bench_parts bench_tree_rows bench_tree_cells bench_tree_cells_n bench_starts bench_looses sum_numbers waiting) H → va_D (va_A ws0 sz) (ws_X2_parse cI cJ cB a0 a_bytes a_bench a_bench_tree a_bench_tree_cells a_bench_starts a_bench_looses a_sum a_sum_numbers a_waiting length waits at_ opened parens great bytes bench_parts bench_tree_rows bench_tree_cells bench_tree_cells_n bench_starts bench_looses sum_numbers waiting) → va_S (va_A ws0 sz) s.heap H locs → lv_has ls 2 [(0, .ref a0), (1, .int y1)] → W p l e rm_X2_parse s m args below meth c H locs 0 0 (MQ below (gQ D sz ws0 (ws_X2_parse cI cJ cB a0 a_bytes a_bench a_bench_tree a_bench_tree_cells a_bench_starts a_bench_looses a_sum a_sum_numbers a_waiting length z.2.1 z.2.2.1 z.2.2.2.1 z.2.2.2.2.1 z.2.2.2.2.2.1 bytes z.2.2.2.2.2.2.1 z.2.2.2.2.2.2.2.1 z.2.2.2.2.2.2.2.2.1 bench_tree_cells_n z.2.2.2.2.2.2.2.2.2.1 z.2.2.2.2.2.2.2.2.2.2.1 z.2.2.2.2.2.2.2.2.2.2.2.1 z.2.2.2.2.2.2.2.2.2.2.2.2) (some (.int z.1))) args s 0 0 (va_A ws0 sz)) (F0 m 34 ls []) := by
  obtain ⟨F, hr, hlk, hNw⟩ := id CX
  have hx := F.1
  have hb := F.2.1
  have hown := F.2.2.2.1
  have hA : ∀ q, s.heap.size ≤ q → va_A ws0 sz q := fun q hq => Or.inr (hsz ▸ hq)
  intro n
  induction n with
  | zero =>
    intro waits at_ opened parens great bench_parts bench_tree_rows bench_tree_cells bench_starts bench_looses sum_numbers waiting y1 H locs ls h
    cases h
  | succ n ih =>
    intro waits at_ opened parens great bench_parts bench_tree_rows bench_tree_cells bench_starts bench_looses sum_numbers waiting y1 H locs ls h hP hD hS hl
    unfold f_X2_parse_34 at h
    refine lv_iload_n hx hb dX2_parse_34 rfl (lv_at hl 1 rfl) ?_
    refine lv_sipush (v := 240) hx hb dX2_parse_35 (by decide) ?_
    refine lv_icmp_gt (tgt := 101) hx hb dX2_parse_38 (by decide) (fun c38 => ?_) (fun c38 => ?_)
    · have h := o_t c38 h
      refine lv_aload_n hx hb dX2_parse_101 rfl (lv_at hl 0 rfl) ?_
      refine r_get F hK hP 0 6 rfl inW_X2 wm_173 rfl (by decide) rfl dX2_parse_102 ?_
      obtain rfl := Option.some.inj h
      exact r_ret (v := at_) F hr hlk rfl dX2_parse_105 hsz hP hD hS
    · have h := o_f c38 h
      refine lv_aload_n hx hb dX2_parse_41 rfl (lv_at hl 0 rfl) ?_
      obtain ⟨z42, hz42, h⟩ := o_b h
      refine k_v (wn := (ws_X2_parse cI cJ cB a0 a_bytes a_bench a_bench_tree a_bench_tree_cells a_bench_starts a_bench_looses a_sum a_sum_numbers a_waiting length z42.2.1 z42.2.2.1 z42.2.2.2.1 z42.2.2.2.2.1 great bytes bench_parts bench_tree_rows bench_tree_cells bench_tree_cells_n bench_starts bench_looses sum_numbers z42.2.2.2.2.2)) (As := []) (rest := []) F hNw hK hP hD hS hA (c_X2_openings l D cI cJ cB a0 a_bench a_sum a_bytes a_waiting _ length waits at_ opened parens great bytes waiting N hz42) wm_634 cv_X2_openings [0, 1, 9] [2, 3, 4, 5, 6, 7, 8] [7, 8, 0, 1, 2, 3, 4, 5, 6, 9] (⟨rfl, rfl, rfl, by decide, rfl⟩ : Ix [0, 1, 9] [2, 3, 4, 5, 6, 7, 8] [7, 8, 0, 1, 2, 3, 4, 5, 6, 9] 10) rfl rfl rfl rfl rfl rfl ⟨rfl, rfl, by decide, by decide⟩ hl.1 rfl (Nat.le_of_ble_eq_true rfl) ⟨Nat.zero_le _, Nat.zero_le _⟩ dX2_parse_42 (fun H locs hP hD hS => ?_)
      refine lv_if_eq (tgt := 62) hx hb dX2_parse_45 (by decide) (fun c45 => ?_) (fun c45 => ?_)
      · have h := o_t c45 h
        exact w_X2_parse_62 CX hK hsz z42.2.1 z42.2.2.1 z42.2.2.2.1 z42.2.2.2.2.1 great bench_parts bench_tree_rows bench_tree_cells bench_starts bench_looses sum_numbers z42.2.2.2.2.2 _ _ _ h hP hD hS (lv_sub hl [0] rfl)
      · have h := o_f c45 h
        refine lv_aload_n hx hb dX2_parse_48 rfl (lv_at hl 0 rfl) ?_
        obtain ⟨z49, hz49, h⟩ := o_b h
        refine k_v (wn := (ws_X2_parse cI cJ cB a0 a_bytes a_bench a_bench_tree a_bench_tree_cells a_bench_starts a_bench_looses a_sum a_sum_numbers a_waiting length z42.2.1 z49.2.1 z42.2.2.2.1 z42.2.2.2.2.1 z49.2.2.1 bytes z49.2.2.2.1 z49.2.2.2.2.1 z49.2.2.2.2.2.1 bench_tree_cells_n z49.2.2.2.2.2.2.1 z49.2.2.2.2.2.2.2.1 z49.2.2.2.2.2.2.2.2 z42.2.2.2.2.2)) (As := []) (rest := []) F hNw hK hP hD hS hA (c_X2_plainUnit l D cI cJ cB a0 a_waiting a_bytes a_bench a_bench_tree a_bench_tree_cells a_bench_starts a_bench_looses a_sum a_sum_numbers _ length z42.2.1 z42.2.2.1 z42.2.2.2.1 z42.2.2.2.2.1 great bytes bench_parts bench_tree_rows bench_tree_cells bench_tree_cells_n bench_starts bench_looses sum_numbers N hz49) wm_657 cv_X2_plainUnit [0, 1, 2, 3, 4, 5, 6, 7, 8] [9] [1, 2, 3, 4, 5, 6, 7, 8, 9, 0] (⟨rfl, rfl, rfl, by decide, rfl⟩ : Ix [0, 1, 2, 3, 4, 5, 6, 7, 8] [9] [1, 2, 3, 4, 5, 6, 7, 8, 9, 0] 10) rfl rfl rfl rfl rfl rfl ⟨rfl, rfl, by decide, by decide⟩ hl.1 rfl (Nat.le_of_ble_eq_true rfl) ⟨Nat.zero_le _, Nat.zero_le _⟩ dX2_parse_49 (fun H locs hP hD hS => ?_)
        refine lv_if_eq (tgt := 62) hx hb dX2_parse_52 (by decide) (fun c52 => ?_) (fun c52 => ?_)
        · have h := o_t c52 h
          exact w_X2_parse_62 CX hK hsz z42.2.1 z49.2.1 z42.2.2.2.1 z42.2.2.2.2.1 z49.2.2.1 z49.2.2.2.1 z49.2.2.2.2.1 z49.2.2.2.2.2.1 z49.2.2.2.2.2.2.1 z49.2.2.2.2.2.2.2.1 z49.2.2.2.2.2.2.2.2 z42.2.2.2.2.2 _ _ _ h hP hD hS (lv_sub hl [0] rfl)
        · have h := o_f c52 h
          refine lv_aload_n hx hb dX2_parse_55 rfl (lv_at hl 0 rfl) ?_
          obtain ⟨z56, hz56, h⟩ := o_b h
          refine k_v (wn := (ws_X2_parse cI cJ cB a0 a_bytes a_bench a_bench_tree a_bench_tree_cells a_bench_starts a_bench_looses a_sum a_sum_numbers a_waiting length z56.2.1 z56.2.2.1 z56.2.2.2.1 z56.2.2.2.2.1 z49.2.2.1 bytes z56.2.2.2.2.2.1 z56.2.2.2.2.2.2.1 z56.2.2.2.2.2.2.2.1 bench_tree_cells_n z49.2.2.2.2.2.2.1 z56.2.2.2.2.2.2.2.2 z49.2.2.2.2.2.2.2.2 z42.2.2.2.2.2)) (As := []) (rest := []) F hNw hK hP hD hS hA (c_X2_endings l D cI cJ cB a0 a_sum a_bytes a_bench a_bench_tree a_bench_tree_cells a_bench_starts a_bench_looses a_waiting _ length z42.2.1 z49.2.1 z42.2.2.2.1 z42.2.2.2.2.1 z49.2.2.1 bytes z49.2.2.2.1 z49.2.2.2.2.1 z49.2.2.2.2.2.1 bench_tree_cells_n z49.2.2.2.2.2.2.1 z49.2.2.2.2.2.2.2.1 z42.2.2.2.2.2 N hz56) wm_741 cv_X2_endings [0, 1, 2, 3, 4, 5, 6, 9] [7, 8] [2, 3, 4, 5, 6, 7, 8, 0, 1, 9] (⟨rfl, rfl, rfl, by decide, rfl⟩ : Ix [0, 1, 2, 3, 4, 5, 6, 9] [7, 8] [2, 3, 4, 5, 6, 7, 8, 0, 1, 9] 10) rfl rfl rfl rfl rfl rfl ⟨rfl, rfl, by decide, by decide⟩ hl.1 rfl (Nat.le_of_ble_eq_true rfl) ⟨Nat.zero_le _, Nat.zero_le _⟩ dX2_parse_56 (fun H locs hP hD hS => ?_)
          refine lv_if_ne (tgt := 67) hx hb dX2_parse_59 (by decide) (fun c59 => ?_) (fun c59 => ?_)
          · have h := o_f c59 h
            refine lv_aload_n hx hb dX2_parse_67 rfl (lv_at hl 0 rfl) ?_
            refine r_get F hK hP 0 6 rfl inW_X2 wm_173 rfl (by decide) rfl dX2_parse_68 ?_
            refine lv_aload_n hx hb dX2_parse_71 rfl (lv_at hl 0 rfl) ?_
            refine r_get F hK hP 0 4 rfl inW_X2 wm_170 rfl (by decide) rfl dX2_parse_72 ?_
            refine lv_icmp_lt (tgt := 83) hx hb dX2_parse_75 (by decide) (fun c75 => ?_) (fun c75 => ?_)
            · have h := o_t c75 h
              refine lv_aload_n hx hb dX2_parse_83 rfl (lv_at hl 0 rfl) ?_
              obtain ⟨z84, hz84, h⟩ := o_b h
              refine k_v (wn := (ws_X2_parse cI cJ cB a0 a_bytes a_bench a_bench_tree a_bench_tree_cells a_bench_starts a_bench_looses a_sum a_sum_numbers a_waiting length z84.2.1 z84.2.2.1 z84.2.2.2.1 z56.2.2.2.2.1 z49.2.2.1 bytes z84.2.2.2.2.1 z84.2.2.2.2.2.1 z84.2.2.2.2.2.2.1 bench_tree_cells_n z49.2.2.2.2.2.2.1 z84.2.2.2.2.2.2.2.1 z49.2.2.2.2.2.2.2.2 z84.2.2.2.2.2.2.2.2)) (As := []) (rest := []) F hNw hK hP hD hS hA (c_X2_connective l D cI cJ cB a0 a_sum a_bytes a_bench a_bench_tree a_bench_tree_cells a_bench_starts a_bench_looses a_waiting _ length z56.2.1 z56.2.2.1 z56.2.2.2.1 z56.2.2.2.2.1 z49.2.2.1 bytes z56.2.2.2.2.2.1 z56.2.2.2.2.2.2.1 z56.2.2.2.2.2.2.2.1 bench_tree_cells_n z49.2.2.2.2.2.2.1 z56.2.2.2.2.2.2.2.2 z42.2.2.2.2.2 N hz84) wm_799 cv_X2_connective [0, 1, 2, 3, 4, 5, 6, 9] [7, 8] [2, 3, 4, 5, 6, 7, 8, 0, 1, 9] (⟨rfl, rfl, rfl, by decide, rfl⟩ : Ix [0, 1, 2, 3, 4, 5, 6, 9] [7, 8] [2, 3, 4, 5, 6, 7, 8, 0, 1, 9] 10) rfl rfl rfl rfl rfl rfl ⟨rfl, rfl, by decide, by decide⟩ hl.1 rfl (Nat.le_of_ble_eq_true rfl) ⟨Nat.zero_le _, Nat.zero_le _⟩ dX2_parse_84 (fun H locs hP hD hS => ?_)
              refine lv_if_ne (tgt := 95) hx hb dX2_parse_87 (by decide) (fun c87 => ?_) (fun c87 => ?_)
              · have h := o_f c87 h
                refine lv_iinc (v := y1 + 1) (lv' := [(1, .int (y1 + 1)), (0, .ref a0)]) hx hb dX2_parse_95 hl (k := 1) rfl rfl (by decide) rfl (fun ls hl => ?_)
                refine lv_goto (tgt := 34) hx hb dX2_parse_98 (by decide) ?_
                exact ih z84.2.1 z84.2.2.1 z84.2.2.2.1 z56.2.2.2.2.1 z49.2.2.1 z84.2.2.2.2.1 z84.2.2.2.2.2.1 z84.2.2.2.2.2.2.1 z49.2.2.2.2.2.2.1 z84.2.2.2.2.2.2.2.1 z49.2.2.2.2.2.2.2.2 z84.2.2.2.2.2.2.2.2 (y1 + 1) _ _ _ h hP hD hS (lv_sub hl [1, 0] rfl)
              · have h := o_t c87 h
                refine lv_aload_n hx hb dX2_parse_90 rfl (lv_at hl 0 rfl) ?_
                refine r_get F hK hP 0 6 rfl inW_X2 wm_173 rfl (by decide) rfl dX2_parse_91 ?_
                obtain rfl := Option.some.inj h
                exact r_ret (v := z84.2.2.1) F hr hlk rfl dX2_parse_94 hsz hP hD hS
            · have h := o_f c75 h
              refine lv_aload_n hx hb dX2_parse_78 rfl (lv_at hl 0 rfl) ?_
              obtain ⟨z79, hz79, h⟩ := o_b h
              refine k_v (wn := (ws_X2_parse cI cJ cB a0 a_bytes a_bench a_bench_tree a_bench_tree_cells a_bench_starts a_bench_looses a_sum a_sum_numbers a_waiting length z79.2.1 z56.2.2.1 z79.2.2.1 z56.2.2.2.2.1 z49.2.2.1 bytes z79.2.2.2.1 z79.2.2.2.2.1 z79.2.2.2.2.2.1 bench_tree_cells_n z49.2.2.2.2.2.2.1 z79.2.2.2.2.2.2 z49.2.2.2.2.2.2.2.2 z42.2.2.2.2.2)) (As := []) (rest := []) F hNw hK hP hD hS hA (c_X2_finish l D cI cJ cB a0 a_bytes a_sum a_bench a_bench_tree a_bench_tree_cells a_bench_starts a_bench_looses a_waiting _ length z56.2.1 z56.2.2.1 z56.2.2.2.1 z56.2.2.2.2.1 z49.2.2.1 z56.2.2.2.2.2.1 z56.2.2.2.2.2.2.1 z56.2.2.2.2.2.2.2.1 bench_tree_cells_n z49.2.2.2.2.2.2.1 z56.2.2.2.2.2.2.2.2 z42.2.2.2.2.2 N hz79) wm_795 cv_X2_finish [0, 2, 3, 4, 5, 6, 9] [1, 7, 8] [3, 0, 4, 5, 6, 7, 8, 1, 2, 9] (⟨rfl, rfl, rfl, by decide, rfl⟩ : Ix [0, 2, 3, 4, 5, 6, 9] [1, 7, 8] [3, 0, 4, 5, 6, 7, 8, 1, 2, 9] 10) rfl rfl rfl rfl rfl rfl ⟨rfl, rfl, by decide, by decide⟩ hl.1 rfl (Nat.le_of_ble_eq_true rfl) ⟨Nat.zero_le _, Nat.zero_le _⟩ dX2_parse_79 (fun H locs hP hD hS => ?_)
              obtain rfl := Option.some.inj h
              exact r_ret (v := z79.1) F hr hlk rfl dX2_parse_82 hsz hP hD hS
          · have h := o_t c59 h
            exact w_X2_parse_62 CX hK hsz z56.2.1 z56.2.2.1 z56.2.2.2.1 z56.2.2.2.2.1 z49.2.2.1 z56.2.2.2.2.2.1 z56.2.2.2.2.2.2.1 z56.2.2.2.2.2.2.2.1 z49.2.2.2.2.2.2.1 z56.2.2.2.2.2.2.2.2 z49.2.2.2.2.2.2.2.2 z42.2.2.2.2.2 _ _ _ h hP hD hS (lv_sub hl [0] rfl)
end G_X2_parse
set_option maxHeartbeats 4000000 in
set_option maxRecDepth 100000 in
theorem c_X2_parse (l : Launch) (D : va_G) (cI cJ cB : ClassId) (a0 a_bytes a_bench a_bench_tree a_bench_tree_cells a_bench_starts a_bench_looses a_sum a_sum_numbers a_waiting : Nat) (sz : Nat) (length : Int32) (waits : Int32) (at_ : Int32) (opened : Int32) (parens : Int32) (great : Int32) (bytes : Nat → Int32) (bench_parts : Int32) (bench_tree_rows : Int32) (bench_tree_cells : Nat → Int32) (bench_tree_cells_n : Nat) (bench_starts : Nat → Int32) (bench_looses : Nat → Int32) (sum_numbers : Nat → Int64) (waiting : Nat → Int32) (N : Nat) {z : Int32 × (Int32) × (Int32) × (Int32) × (Int32) × (Int32) × (Int32) × (Int32) × (Nat → Int32) × (Nat → Int32) × (Nat → Int32) × (Nat → Int64) × (Nat → Int32)} (h : f_X2_parse N length waits at_ opened parens great bytes bench_parts bench_tree_rows bench_tree_cells bench_tree_cells_n bench_starts bench_looses sum_numbers waiting = some z) : Mg l yX2_parse cX2_parse 2 (some .int) rm_X2_parse D (ty0 cI cJ cB) [.ref a0] sz (ws_X2_parse cI cJ cB a0 a_bytes a_bench a_bench_tree a_bench_tree_cells a_bench_starts a_bench_looses a_sum a_sum_numbers a_waiting length waits at_ opened parens great bytes bench_parts bench_tree_rows bench_tree_cells bench_tree_cells_n bench_starts bench_looses sum_numbers waiting) (some (.int z.1)) (ws_X2_parse cI cJ cB a0 a_bytes a_bench a_bench_tree a_bench_tree_cells a_bench_starts a_bench_looses a_sum a_sum_numbers a_waiting length z.2.1 z.2.2.1 z.2.2.2.1 z.2.2.2.2.1 z.2.2.2.2.2.1 bytes z.2.2.2.2.2.2.1 z.2.2.2.2.2.2.2.1 z.2.2.2.2.2.2.2.2.1 bench_tree_cells_n z.2.2.2.2.2.2.2.2.2.1 z.2.2.2.2.2.2.2.2.2.2.1 z.2.2.2.2.2.2.2.2.2.2.2.1 z.2.2.2.2.2.2.2.2.2.2.2.2) := by
  refine Mg.of (by decide) (Nat.le_of_ble_eq_true rfl) ?_
  intro p e s m below meth c CX hK hsz hP hD ls hl
  have CX : Cx p m c cX2_parse 2 s ([.ref a0] : List Value).toArray (Cond.code yX2_parse cX2_parse 2 (some .int)) RX2 meth (some .int) := CX
  obtain ⟨F, hr, hlk, hNw⟩ := id CX
  have hx := F.1
  have hb := F.2.1
  have hown := F.2.2.2.1
  have hl : lv_has ls 2 [(0, .ref a0)] := hl
  have hS : va_S (va_A (ws_X2_parse cI cJ cB a0 a_bytes a_bench a_bench_tree a_bench_tree_cells a_bench_starts a_bench_looses a_sum a_sum_numbers a_waiting length waits at_ opened parens great bytes bench_parts bench_tree_rows bench_tree_cells bench_tree_cells_n bench_starts bench_looses sum_numbers waiting) sz) s.heap s.heap [] := va_S.rf
  have hA : ∀ q, s.heap.size ≤ q → va_A (ws_X2_parse cI cJ cB a0 a_bytes a_bench a_bench_tree a_bench_tree_cells a_bench_starts a_bench_looses a_sum a_sum_numbers a_waiting length waits at_ opened parens great bytes bench_parts bench_tree_rows bench_tree_cells bench_tree_cells_n bench_starts bench_looses sum_numbers waiting) sz q := fun q hq => Or.inr (hsz ▸ hq)
  unfold f_X2_parse at h
  refine lv_aload_n hx hb dX2_parse_0 rfl (lv_at hl 0 rfl) ?_
  refine r_get F hK hP 0 1 rfl inW_X2 wm_166 rfl (by decide) rfl dX2_parse_1 ?_
  obtain ⟨z4, hz4, h⟩ := o_b h
  refine k_v (wn := (ws_X2_parse cI cJ cB a0 a_bytes a_bench a_bench_tree a_bench_tree_cells a_bench_starts a_bench_looses a_sum a_sum_numbers a_waiting length waits at_ opened parens great bytes z4.1 z4.2 bench_tree_cells bench_tree_cells_n bench_starts bench_looses sum_numbers waiting)) (As := []) (rest := []) F hNw hK hP hD hS hA (c_X0_begin l D cI cJ cB a_bench a_bench_starts a_bench_looses a_bench_tree a_bench_tree_cells _ bench_parts bench_tree_rows N hz4) wm_626 cv_X0_begin [2, 3] [0, 1, 4, 5, 6, 7, 8, 9] [0, 1, 8, 9, 2, 3, 4, 5, 6, 7] (⟨rfl, rfl, rfl, by decide, rfl⟩ : Ix [2, 3] [0, 1, 4, 5, 6, 7, 8, 9] [0, 1, 8, 9, 2, 3, 4, 5, 6, 7] 10) rfl rfl rfl rfl rfl rfl ⟨rfl, rfl, by decide, by decide⟩ hl.1 rfl (Nat.le_of_ble_eq_true rfl) ⟨Nat.zero_le _, Nat.zero_le _⟩ dX2_parse_4 (fun H locs hP hD hS => ?_)
  refine lv_aload_n hx hb dX2_parse_7 rfl (lv_at hl 0 rfl) ?_
  refine lv_iconst (v := 0) hx hb dX2_parse_8 (by decide) ?_
  refine r_put (wn := (ws_X2_parse cI cJ cB a0 a_bytes a_bench a_bench_tree a_bench_tree_cells a_bench_starts a_bench_looses a_sum a_sum_numbers a_waiting length 0 at_ opened parens great bytes z4.1 z4.2 bench_tree_cells bench_tree_cells_n bench_starts bench_looses sum_numbers waiting)) F hK hP hD hS 0 5 rfl inW_X2 wm_172 tyX2_ok nmX2 rfl rfl (by decide) rfl rfl (Nat.le_of_ble_eq_true rfl) rfl dX2_parse_9 (fun H locs hP hD hS => ?_)
  refine lv_aload_n hx hb dX2_parse_12 rfl (lv_at hl 0 rfl) ?_
  refine lv_iconst (v := 0) hx hb dX2_parse_13 (by decide) ?_
  refine r_put (wn := (ws_X2_parse cI cJ cB a0 a_bytes a_bench a_bench_tree a_bench_tree_cells a_bench_starts a_bench_looses a_sum a_sum_numbers a_waiting length 0 0 opened parens great bytes z4.1 z4.2 bench_tree_cells bench_tree_cells_n bench_starts bench_looses sum_numbers waiting)) F hK hP hD hS 0 6 rfl inW_X2 wm_173 tyX2_ok nmX2 rfl rfl (by decide) rfl rfl (Nat.le_of_ble_eq_true rfl) rfl dX2_parse_14 (fun H locs hP hD hS => ?_)
  refine lv_aload_n hx hb dX2_parse_17 rfl (lv_at hl 0 rfl) ?_
  refine lv_iconst (v := 0) hx hb dX2_parse_18 (by decide) ?_
  refine r_put (wn := (ws_X2_parse cI cJ cB a0 a_bytes a_bench a_bench_tree a_bench_tree_cells a_bench_starts a_bench_looses a_sum a_sum_numbers a_waiting length 0 0 0 parens great bytes z4.1 z4.2 bench_tree_cells bench_tree_cells_n bench_starts bench_looses sum_numbers waiting)) F hK hP hD hS 0 7 rfl inW_X2 wm_174 tyX2_ok nmX2 rfl rfl (by decide) rfl rfl (Nat.le_of_ble_eq_true rfl) rfl dX2_parse_19 (fun H locs hP hD hS => ?_)
  refine lv_aload_n hx hb dX2_parse_22 rfl (lv_at hl 0 rfl) ?_
  refine lv_iconst (v := 0) hx hb dX2_parse_23 (by decide) ?_
  refine r_put (wn := (ws_X2_parse cI cJ cB a0 a_bytes a_bench a_bench_tree a_bench_tree_cells a_bench_starts a_bench_looses a_sum a_sum_numbers a_waiting length 0 0 0 0 great bytes z4.1 z4.2 bench_tree_cells bench_tree_cells_n bench_starts bench_looses sum_numbers waiting)) F hK hP hD hS 0 8 rfl inW_X2 wm_175 tyX2_ok nmX2 rfl rfl (by decide) rfl rfl (Nat.le_of_ble_eq_true rfl) rfl dX2_parse_24 (fun H locs hP hD hS => ?_)
  refine lv_aload_n hx hb dX2_parse_27 rfl (lv_at hl 0 rfl) ?_
  refine lv_iconst (v := 0) hx hb dX2_parse_28 (by decide) ?_
  refine r_put (wn := (ws_X2_parse cI cJ cB a0 a_bytes a_bench a_bench_tree a_bench_tree_cells a_bench_starts a_bench_looses a_sum a_sum_numbers a_waiting length 0 0 0 0 0 bytes z4.1 z4.2 bench_tree_cells bench_tree_cells_n bench_starts bench_looses sum_numbers waiting)) F hK hP hD hS 0 9 rfl inW_X2 wm_176 tyX2_ok nmX2 rfl rfl (by decide) rfl rfl (Nat.le_of_ble_eq_true rfl) rfl dX2_parse_29 (fun H locs hP hD hS => ?_)
  refine lv_iconst (v := 0) hx hb dX2_parse_32 (by decide) ?_
  refine lv_istore_n (lv' := [(1, .int 0), (0, .ref a0)]) hx hb dX2_parse_33 rfl hl (by decide) rfl (fun ls hl => ?_)
  exact w_X2_parse_34 CX hK hsz N 0 0 0 0 0 z4.1 z4.2 bench_tree_cells bench_starts bench_looses sum_numbers waiting 0 _ _ _ h hP hD hS (lv_sub hl [1, 0] rfl)
