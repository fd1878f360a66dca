def wH (cy : Nat → ClassId) (q : Nat → Nat) (h_alive : Nat → Int32) (h_late : Nat → Int32) (h_hbr : Nat → Int32) (h_rbh : Nat → Int32) (h_waits : Nat → Int32) (h_pers : Nat → Int32) (h_size : Int32) (h_ranks : Int32) (h_lines : Int32) : va_W := [(q 0, .inr (2, [.ref (q 1), .ref (q 2), .ref (q 3), .ref (q 4), .ref (q 5), .ref (q 6), .int h_size, .int h_ranks, .int h_lines])), (q 1, .inl (cy 2, 16, .inl h_alive)), (q 2, .inl (cy 0, 16, .inl h_late)), (q 3, .inl (cy 0, 16, .inl h_hbr)), (q 4, .inl (cy 0, 16, .inl h_rbh)), (q 5, .inl (cy 0, 256, .inl h_waits)), (q 6, .inl (cy 0, 256, .inl h_pers))]
def wP (cy : Nat → ClassId) (q : Nat → Nat) (p_packed : Nat → Int32) (p_size : Int32) : va_W := [(q 0, .inr (3, [.ref (q 1), .int p_size])), (q 1, .inl (cy 0, 1200, .inl p_packed))]
def wE (cy : Nat → ClassId) (q : Nat → Nat) (e_num : Nat → Int32) (e_und : Nat → Int32) : va_W := [(q 0, .inr (1, [.ref (q 1), .ref (q 2)])), (q 1, .inl (cy 0, 256, .inl e_num)), (q 2, .inl (cy 0, 256, .inl e_und))]
def wG (cy : Nat → ClassId) (q : Nat → Nat) (s_some : Nat → Int64) (s_more : Nat → Int64) (s_sund : Nat → Int64) (s_mund : Nat → Int64) (s_group : Int32) : va_W := [(q 0, .inr (5, [.ref (q 1), .ref (q 2), .ref (q 3), .ref (q 4), .int s_group])), (q 1, .inl (cy 1, 256, .inr (.inl s_some))), (q 2, .inl (cy 1, 256, .inr (.inl s_more))), (q 3, .inl (cy 1, 256, .inr (.inl s_sund))), (q 4, .inl (cy 1, 256, .inr (.inl s_mund)))]
def wK (cy : Nat → ClassId) (q : Nat → Nat) (k_ahead : Nat → Int32) (k_behind : Nat → Int32) : va_W := [(q 0, .inr (0, [.ref (q 1), .ref (q 2)])), (q 1, .inl (cy 0, 16, .inl k_ahead)), (q 2, .inl (cy 0, 16, .inl k_behind))]
def wW (cy : Nat → ClassId) (q : Nat → Nat) (w_drawn : Value) (w_house : Value) (w_m : Int32) (w_root : Int32) (w_step : Int32) (w_lacks : Int32) : va_W := [(q 0, .inr (6, [w_drawn, w_house, .int w_m, .int w_root, .int w_step, .int w_lacks]))]
def wR (cy : Nat → ClassId) (q : Nat → Nat) (r_joined : Nat → Int32) (r_steps : Nat → Int32) (r_reached : Nat → Int32) (r_m : Int32) (r_all : Int32) : va_W := [(q 0, .inr (4, [.ref (q 1), .ref (q 2), .ref (q 3), .int r_m, .int r_all])), (q 1, .inl (cy 0, 8, .inl r_joined)), (q 2, .inl (cy 0, 256, .inl r_steps)), (q 3, .inl (cy 2, 256, .inl r_reached))]
def wS (cy : Nat → ClassId) (q : Nat → Nat) (hq : Nat → Nat) (nq : Nat → Nat) (sq : Nat → Nat) (kq : Nat → Nat) (wq : Nat → Nat) (rq : Nat → Nat) (t_plan : Value) (t_draft : Value) : va_W := [(q 0, .inr (7, [.ref (hq 0), .ref (nq 0), .ref (sq 0), .ref (kq 0), .ref (wq 0), .ref (rq 0), t_plan, t_draft]))]
def wM (cy : Nat → ClassId) (q : Nat → Nat) (m_hosts : Int32) (m_lost : Nat → Int32) (m_late : Nat → Int32) (m_wait : Nat → Int32) (m_per : Nat → Int32) (m_blocks : Nat → Int32) (m_sends : Nat → Int32) (m_many : Int32) (m_made : Nat → Int32) (m_madeMany : Int32) (m_lacking : Int32) (m_thrown : Int32) (m_now : Nat → Int32) (m_ahead : Nat → Int32) (m_then : Nat → Int32) (m_time : Nat → Int32) (m_timeThen : Nat → Int32) (m_isThere : Nat → Int32) (m_comes : Nat → Int32) : va_W := [(q 0, .inr (8, [.int m_hosts, .ref (q 1), .ref (q 2), .ref (q 3), .ref (q 4), .ref (q 5), .ref (q 6), .int m_many, .ref (q 7), .int m_madeMany, .int m_lacking, .int m_thrown, .ref (q 8), .ref (q 9), .ref (q 10), .ref (q 11), .ref (q 12), .ref (q 13), .ref (q 14)])), (q 1, .inl (cy 2, 16, .inl m_lost)), (q 2, .inl (cy 0, 16, .inl m_late)), (q 3, .inl (cy 0, 256, .inl m_wait)), (q 4, .inl (cy 0, 256, .inl m_per)), (q 5, .inl (cy 0, 256, .inl m_blocks)), (q 6, .inl (cy 0, 7200, .inl m_sends)), (q 7, .inl (cy 0, 7200, .inl m_made)), (q 8, .inl (cy 3, 65536, .inl m_now)), (q 9, .inl (cy 3, 65536, .inl m_ahead)), (q 10, .inl (cy 0, 256, .inl m_then)), (q 11, .inl (cy 0, 16, .inl m_time)), (q 12, .inl (cy 0, 16, .inl m_timeThen)), (q 13, .inl (cy 2, 256, .inl m_isThere)), (q 14, .inl (cy 2, 256, .inl m_comes))]
theorem zk_bm100 : (Int8.ofInt (-100)).toInt32 = (-100) := by decide
theorem zk_bm3 : (Int8.ofInt (-3)).toInt32 = (-3) := by decide
theorem zk_bm2 : (Int8.ofInt (-2)).toInt32 = (-2) := by decide
theorem zk_b6 : (Int8.ofInt 6).toInt32 = 6 := by decide
theorem zk_b8 : (Int8.ofInt 8).toInt32 = 8 := by decide
theorem zk_b9 : (Int8.ofInt 9).toInt32 = 9 := by decide
theorem zk_b13 : (Int8.ofInt 13).toInt32 = 13 := by decide
theorem zk_b15 : (Int8.ofInt 15).toInt32 = 15 := by decide
theorem zk_b16 : (Int8.ofInt 16).toInt32 = 16 := by decide
theorem zk_b17 : (Int8.ofInt 17).toInt32 = 17 := by decide
theorem zk_b63 : (Int8.ofInt 63).toInt32 = 63 := by decide
theorem zk_b64 : (Int8.ofInt 64).toInt32 = 64 := by decide
theorem zk_cm1 : Int32.ofInt (-1) = (-1) := by decide
theorem zk_c0 : Int32.ofInt 0 = 0 := by decide
theorem zk_c1 : Int32.ofInt 1 = 1 := by decide
theorem zk_c2 : Int32.ofInt 2 = 2 := by decide
theorem zk_c3 : Int32.ofInt 3 = 3 := by decide
theorem zk_c4 : Int32.ofInt 4 = 4 := by decide
theorem zk_c5 : Int32.ofInt 5 = 5 := by decide
theorem zk_l0 : Int64.ofNat (((0 : Fin 2)) : Nat) = 0 := by decide
theorem zk_l1 : Int64.ofNat (((1 : Fin 2)) : Nat) = 1 := by decide
theorem zk_s256 : (Int16.ofInt 256).toInt32 = 256 := by decide
theorem zk_s1000 : (Int16.ofInt 1000).toInt32 = 1000 := by decide
theorem zk_s1200 : (Int16.ofInt 1200).toInt32 = 1200 := by decide
theorem kJ6_bitCount_0f7a4 : yJ6_bitCount_0f7a4.cls ≠ "java/lang/invoke/MethodHandle" ∧ yJ6_bitCount_0f7a4.cls ≠ "java/lang/invoke/VarHandle" ∧ (parseMethodDescriptor yJ6_bitCount_0f7a4.desc).map (fun d => d.parameters.length) = some 1 := by decide +kernel
theorem kJ7_fill_53178 : yJ7_fill_53178.cls ≠ "java/lang/invoke/MethodHandle" ∧ yJ7_fill_53178.cls ≠ "java/lang/invoke/VarHandle" ∧ (parseMethodDescriptor yJ7_fill_53178.desc).map (fun d => d.parameters.length) = some 2 := by decide +kernel
theorem kX0_endOf : yX0_endOf.cls = RX0 ∧ yX0_endOf.cls ≠ "java/lang/invoke/MethodHandle" ∧ yX0_endOf.cls ≠ "java/lang/invoke/VarHandle" ∧ (parseMethodDescriptor yX0_endOf.desc).map (fun d => d.parameters.length) = some 3 := by decide +kernel
theorem kX0_inStep : yX0_inStep.cls = RX0 ∧ yX0_inStep.cls ≠ "java/lang/invoke/MethodHandle" ∧ yX0_inStep.cls ≠ "java/lang/invoke/VarHandle" ∧ (parseMethodDescriptor yX0_inStep.desc).map (fun d => d.parameters.length) = some 2 := by decide +kernel
theorem kX0_takeLetter : yX0_takeLetter.cls = RX0 ∧ yX0_takeLetter.cls ≠ "java/lang/invoke/MethodHandle" ∧ yX0_takeLetter.cls ≠ "java/lang/invoke/VarHandle" ∧ (parseMethodDescriptor yX0_takeLetter.desc).map (fun d => d.parameters.length) = some 4 := by decide +kernel
theorem kX2_change : yX2_change.cls = RX2 ∧ yX2_change.cls ≠ "java/lang/invoke/MethodHandle" ∧ yX2_change.cls ≠ "java/lang/invoke/VarHandle" ∧ (parseMethodDescriptor yX2_change.desc).map (fun d => d.parameters.length) = some 2 := by decide +kernel
theorem kX2_zero : yX2_zero.cls = RX2 ∧ yX2_zero.cls ≠ "java/lang/invoke/MethodHandle" ∧ yX2_zero.cls ≠ "java/lang/invoke/VarHandle" ∧ (parseMethodDescriptor yX2_zero.desc).map (fun d => d.parameters.length) = some 0 := by decide +kernel
theorem kX3_begin : yX3_begin.cls = RX3 ∧ yX3_begin.cls ≠ "java/lang/invoke/MethodHandle" ∧ yX3_begin.cls ≠ "java/lang/invoke/VarHandle" ∧ (parseMethodDescriptor yX3_begin.desc).map (fun d => d.parameters.length) = some 1 := by decide +kernel
theorem kX3_delay : yX3_delay.cls = RX3 ∧ yX3_delay.cls ≠ "java/lang/invoke/MethodHandle" ∧ yX3_delay.cls ≠ "java/lang/invoke/VarHandle" ∧ (parseMethodDescriptor yX3_delay.desc).map (fun d => d.parameters.length) = some 2 := by decide +kernel
theorem kX3_hasLine : yX3_hasLine.cls = RX3 ∧ yX3_hasLine.cls ≠ "java/lang/invoke/MethodHandle" ∧ yX3_hasLine.cls ≠ "java/lang/invoke/VarHandle" ∧ (parseMethodDescriptor yX3_hasLine.desc).map (fun d => d.parameters.length) = some 2 := by decide +kernel
theorem kX3_hostOf : yX3_hostOf.cls = RX3 ∧ yX3_hostOf.cls ≠ "java/lang/invoke/MethodHandle" ∧ yX3_hostOf.cls ≠ "java/lang/invoke/VarHandle" ∧ (parseMethodDescriptor yX3_hostOf.desc).map (fun d => d.parameters.length) = some 1 := by decide +kernel
theorem kX3_isHost : yX3_isHost.cls = RX3 ∧ yX3_isHost.cls ≠ "java/lang/invoke/MethodHandle" ∧ yX3_isHost.cls ≠ "java/lang/invoke/VarHandle" ∧ (parseMethodDescriptor yX3_isHost.desc).map (fun d => d.parameters.length) = some 1 := by decide +kernel
theorem kX3_isInForm : yX3_isInForm.cls = RX3 ∧ yX3_isInForm.cls ≠ "java/lang/invoke/MethodHandle" ∧ yX3_isInForm.cls ≠ "java/lang/invoke/VarHandle" ∧ (parseMethodDescriptor yX3_isInForm.desc).map (fun d => d.parameters.length) = some 3 := by decide +kernel
theorem kX3_isLastLive : yX3_isLastLive.cls = RX3 ∧ yX3_isLastLive.cls ≠ "java/lang/invoke/MethodHandle" ∧ yX3_isLastLive.cls ≠ "java/lang/invoke/VarHandle" ∧ (parseMethodDescriptor yX3_isLastLive.desc).map (fun d => d.parameters.length) = some 1 := by decide +kernel
theorem kX3_isLive : yX3_isLive.cls = RX3 ∧ yX3_isLive.cls ≠ "java/lang/invoke/MethodHandle" ∧ yX3_isLive.cls ≠ "java/lang/invoke/VarHandle" ∧ (parseMethodDescriptor yX3_isLive.desc).map (fun d => d.parameters.length) = some 1 := by decide +kernel
theorem kX3_isPair : yX3_isPair.cls = RX3 ∧ yX3_isPair.cls ≠ "java/lang/invoke/MethodHandle" ∧ yX3_isPair.cls ≠ "java/lang/invoke/VarHandle" ∧ (parseMethodDescriptor yX3_isPair.desc).map (fun d => d.parameters.length) = some 2 := by decide +kernel
theorem kX3_join : yX3_join.cls = RX3 ∧ yX3_join.cls ≠ "java/lang/invoke/MethodHandle" ∧ yX3_join.cls ≠ "java/lang/invoke/VarHandle" ∧ (parseMethodDescriptor yX3_join.desc).map (fun d => d.parameters.length) = some 4 := by decide +kernel
theorem kX3_joinByForm : yX3_joinByForm.cls = RX3 ∧ yX3_joinByForm.cls ≠ "java/lang/invoke/MethodHandle" ∧ yX3_joinByForm.cls ≠ "java/lang/invoke/VarHandle" ∧ (parseMethodDescriptor yX3_joinByForm.desc).map (fun d => d.parameters.length) = some 3 := by decide +kernel
theorem kX3_latenessOf : yX3_latenessOf.cls = RX3 ∧ yX3_latenessOf.cls ≠ "java/lang/invoke/MethodHandle" ∧ yX3_latenessOf.cls ≠ "java/lang/invoke/VarHandle" ∧ (parseMethodDescriptor yX3_latenessOf.desc).map (fun d => d.parameters.length) = some 1 := by decide +kernel
theorem kX3_letterTicks : yX3_letterTicks.cls = RX3 ∧ yX3_letterTicks.cls ≠ "java/lang/invoke/MethodHandle" ∧ yX3_letterTicks.cls ≠ "java/lang/invoke/VarHandle" ∧ (parseMethodDescriptor yX3_letterTicks.desc).map (fun d => d.parameters.length) = some 3 := by decide +kernel
theorem kX3_lines : yX3_lines.cls = RX3 ∧ yX3_lines.cls ≠ "java/lang/invoke/MethodHandle" ∧ yX3_lines.cls ≠ "java/lang/invoke/VarHandle" ∧ (parseMethodDescriptor yX3_lines.desc).map (fun d => d.parameters.length) = some 0 := by decide +kernel
theorem kX3_pair : yX3_pair.cls ≠ "java/lang/invoke/MethodHandle" ∧ yX3_pair.cls ≠ "java/lang/invoke/VarHandle" ∧ (parseMethodDescriptor yX3_pair.desc).map (fun d => d.parameters.length) = some 2 := by decide +kernel
theorem kX3_part : yX3_part.cls = RX3 ∧ yX3_part.cls ≠ "java/lang/invoke/MethodHandle" ∧ yX3_part.cls ≠ "java/lang/invoke/VarHandle" ∧ (parseMethodDescriptor yX3_part.desc).map (fun d => d.parameters.length) = some 2 := by decide +kernel
theorem kX3_rankAnew : yX3_rankAnew.cls = RX3 ∧ yX3_rankAnew.cls ≠ "java/lang/invoke/MethodHandle" ∧ yX3_rankAnew.cls ≠ "java/lang/invoke/VarHandle" ∧ (parseMethodDescriptor yX3_rankAnew.desc).map (fun d => d.parameters.length) = some 0 := by decide +kernel
theorem kX3_rankOf : yX3_rankOf.cls = RX3 ∧ yX3_rankOf.cls ≠ "java/lang/invoke/MethodHandle" ∧ yX3_rankOf.cls ≠ "java/lang/invoke/VarHandle" ∧ (parseMethodDescriptor yX3_rankOf.desc).map (fun d => d.parameters.length) = some 1 := by decide +kernel
theorem kX3_ranks : yX3_ranks.cls = RX3 ∧ yX3_ranks.cls ≠ "java/lang/invoke/MethodHandle" ∧ yX3_ranks.cls ≠ "java/lang/invoke/VarHandle" ∧ (parseMethodDescriptor yX3_ranks.desc).map (fun d => d.parameters.length) = some 0 := by decide +kernel
theorem kX3_size : yX3_size.cls = RX3 ∧ yX3_size.cls ≠ "java/lang/invoke/MethodHandle" ∧ yX3_size.cls ≠ "java/lang/invoke/VarHandle" ∧ (parseMethodDescriptor yX3_size.desc).map (fun d => d.parameters.length) = some 0 := by decide +kernel
theorem kX3_turn : yX3_turn.cls = RX3 ∧ yX3_turn.cls ≠ "java/lang/invoke/MethodHandle" ∧ yX3_turn.cls ≠ "java/lang/invoke/VarHandle" ∧ (parseMethodDescriptor yX3_turn.desc).map (fun d => d.parameters.length) = some 2 := by decide +kernel
theorem kX4_block : yX4_block.cls = RX4 ∧ yX4_block.cls ≠ "java/lang/invoke/MethodHandle" ∧ yX4_block.cls ≠ "java/lang/invoke/VarHandle" ∧ (parseMethodDescriptor yX4_block.desc).map (fun d => d.parameters.length) = some 1 := by decide +kernel
theorem kX4_empty : yX4_empty.cls = RX4 ∧ yX4_empty.cls ≠ "java/lang/invoke/MethodHandle" ∧ yX4_empty.cls ≠ "java/lang/invoke/VarHandle" ∧ (parseMethodDescriptor yX4_empty.desc).map (fun d => d.parameters.length) = some 0 := by decide +kernel
theorem kX4_endsLetter : yX4_endsLetter.cls = RX4 ∧ yX4_endsLetter.cls ≠ "java/lang/invoke/MethodHandle" ∧ yX4_endsLetter.cls ≠ "java/lang/invoke/VarHandle" ∧ (parseMethodDescriptor yX4_endsLetter.desc).map (fun d => d.parameters.length) = some 1 := by decide +kernel
theorem kX4_endsStep : yX4_endsStep.cls = RX4 ∧ yX4_endsStep.cls ≠ "java/lang/invoke/MethodHandle" ∧ yX4_endsStep.cls ≠ "java/lang/invoke/VarHandle" ∧ (parseMethodDescriptor yX4_endsStep.desc).map (fun d => d.parameters.length) = some 1 := by decide +kernel
theorem kX4_forbids : yX4_forbids.cls = RX4 ∧ yX4_forbids.cls ≠ "java/lang/invoke/MethodHandle" ∧ yX4_forbids.cls ≠ "java/lang/invoke/VarHandle" ∧ (parseMethodDescriptor yX4_forbids.desc).map (fun d => d.parameters.length) = some 4 := by decide +kernel
theorem kX4_from : yX4_from.cls = RX4 ∧ yX4_from.cls ≠ "java/lang/invoke/MethodHandle" ∧ yX4_from.cls ≠ "java/lang/invoke/VarHandle" ∧ (parseMethodDescriptor yX4_from.desc).map (fun d => d.parameters.length) = some 1 := by decide +kernel
theorem kX4_isAdded : yX4_isAdded.cls = RX4 ∧ yX4_isAdded.cls ≠ "java/lang/invoke/MethodHandle" ∧ yX4_isAdded.cls ≠ "java/lang/invoke/VarHandle" ∧ (parseMethodDescriptor yX4_isAdded.desc).map (fun d => d.parameters.length) = some 1 := by decide +kernel
theorem kX4_isFull : yX4_isFull.cls = RX4 ∧ yX4_isFull.cls ≠ "java/lang/invoke/MethodHandle" ∧ yX4_isFull.cls ≠ "java/lang/invoke/VarHandle" ∧ (parseMethodDescriptor yX4_isFull.desc).map (fun d => d.parameters.length) = some 0 := by decide +kernel
theorem kX4_letters : yX4_letters.cls = RX4 ∧ yX4_letters.cls ≠ "java/lang/invoke/MethodHandle" ∧ yX4_letters.cls ≠ "java/lang/invoke/VarHandle" ∧ (parseMethodDescriptor yX4_letters.desc).map (fun d => d.parameters.length) = some 0 := by decide +kernel
theorem kX4_place : yX4_place.cls = RX4 ∧ yX4_place.cls ≠ "java/lang/invoke/MethodHandle" ∧ yX4_place.cls ≠ "java/lang/invoke/VarHandle" ∧ (parseMethodDescriptor yX4_place.desc).map (fun d => d.parameters.length) = some 6 := by decide +kernel
theorem kX4_sendAt : yX4_sendAt.cls = RX4 ∧ yX4_sendAt.cls ≠ "java/lang/invoke/MethodHandle" ∧ yX4_sendAt.cls ≠ "java/lang/invoke/VarHandle" ∧ (parseMethodDescriptor yX4_sendAt.desc).map (fun d => d.parameters.length) = some 1 := by decide +kernel
theorem kX4_size : yX4_size.cls = RX4 ∧ yX4_size.cls ≠ "java/lang/invoke/MethodHandle" ∧ yX4_size.cls ≠ "java/lang/invoke/VarHandle" ∧ (parseMethodDescriptor yX4_size.desc).map (fun d => d.parameters.length) = some 0 := by decide +kernel
theorem kX4_source : yX4_source.cls = RX4 ∧ yX4_source.cls ≠ "java/lang/invoke/MethodHandle" ∧ yX4_source.cls ≠ "java/lang/invoke/VarHandle" ∧ (parseMethodDescriptor yX4_source.desc).map (fun d => d.parameters.length) = some 1 := by decide +kernel
theorem kX4_step : yX4_step.cls = RX4 ∧ yX4_step.cls ≠ "java/lang/invoke/MethodHandle" ∧ yX4_step.cls ≠ "java/lang/invoke/VarHandle" ∧ (parseMethodDescriptor yX4_step.desc).map (fun d => d.parameters.length) = some 1 := by decide +kernel
theorem kX4_steps : yX4_steps.cls = RX4 ∧ yX4_steps.cls ≠ "java/lang/invoke/MethodHandle" ∧ yX4_steps.cls ≠ "java/lang/invoke/VarHandle" ∧ (parseMethodDescriptor yX4_steps.desc).map (fun d => d.parameters.length) = some 0 := by decide +kernel
theorem kX4_target : yX4_target.cls = RX4 ∧ yX4_target.cls ≠ "java/lang/invoke/MethodHandle" ∧ yX4_target.cls ≠ "java/lang/invoke/VarHandle" ∧ (parseMethodDescriptor yX4_target.desc).map (fun d => d.parameters.length) = some 1 := by decide +kernel
theorem kX4_to : yX4_to.cls = RX4 ∧ yX4_to.cls ≠ "java/lang/invoke/MethodHandle" ∧ yX4_to.cls ≠ "java/lang/invoke/VarHandle" ∧ (parseMethodDescriptor yX4_to.desc).map (fun d => d.parameters.length) = some 1 := by decide +kernel
theorem kX4_toBlock : yX4_toBlock.cls = RX4 ∧ yX4_toBlock.cls ≠ "java/lang/invoke/MethodHandle" ∧ yX4_toBlock.cls ≠ "java/lang/invoke/VarHandle" ∧ (parseMethodDescriptor yX4_toBlock.desc).map (fun d => d.parameters.length) = some 1 := by decide +kernel
theorem kX5_leastSteps : yX5_leastSteps.cls = RX5 ∧ yX5_leastSteps.cls ≠ "java/lang/invoke/MethodHandle" ∧ yX5_leastSteps.cls ≠ "java/lang/invoke/VarHandle" ∧ (parseMethodDescriptor yX5_leastSteps.desc).map (fun d => d.parameters.length) = some 2 := by decide +kernel
theorem kX5_letSend : yX5_letSend.cls = RX5 ∧ yX5_letSend.cls ≠ "java/lang/invoke/MethodHandle" ∧ yX5_letSend.cls ≠ "java/lang/invoke/VarHandle" ∧ (parseMethodDescriptor yX5_letSend.desc).map (fun d => d.parameters.length) = some 2 := by decide +kernel
theorem kX5_readLines : yX5_readLines.cls = RX5 ∧ yX5_readLines.cls ≠ "java/lang/invoke/MethodHandle" ∧ yX5_readLines.cls ≠ "java/lang/invoke/VarHandle" ∧ (parseMethodDescriptor yX5_readLines.desc).map (fun d => d.parameters.length) = some 1 := by decide +kernel
theorem kX5_stepFrom : yX5_stepFrom.cls = RX5 ∧ yX5_stepFrom.cls ≠ "java/lang/invoke/MethodHandle" ∧ yX5_stepFrom.cls ≠ "java/lang/invoke/VarHandle" ∧ (parseMethodDescriptor yX5_stepFrom.desc).map (fun d => d.parameters.length) = some 2 := by decide +kernel
theorem kX6_askedOf : yX6_askedOf.cls = RX6 ∧ yX6_askedOf.cls ≠ "java/lang/invoke/MethodHandle" ∧ yX6_askedOf.cls ≠ "java/lang/invoke/VarHandle" ∧ (parseMethodDescriptor yX6_askedOf.desc).map (fun d => d.parameters.length) = some 4 := by decide +kernel
theorem kX6_begin : yX6_begin.cls = RX6 ∧ yX6_begin.cls ≠ "java/lang/invoke/MethodHandle" ∧ yX6_begin.cls ≠ "java/lang/invoke/VarHandle" ∧ (parseMethodDescriptor yX6_begin.desc).map (fun d => d.parameters.length) = some 1 := by decide +kernel
theorem kX6_firstWrong : yX6_firstWrong.cls = RX6 ∧ yX6_firstWrong.cls ≠ "java/lang/invoke/MethodHandle" ∧ yX6_firstWrong.cls ≠ "java/lang/invoke/VarHandle" ∧ (parseMethodDescriptor yX6_firstWrong.desc).map (fun d => d.parameters.length) = some 4 := by decide +kernel
theorem kX6_firstWrongInGroup : yX6_firstWrongInGroup.cls = RX6 ∧ yX6_firstWrongInGroup.cls ≠ "java/lang/invoke/MethodHandle" ∧ yX6_firstWrongInGroup.cls ≠ "java/lang/invoke/VarHandle" ∧ (parseMethodDescriptor yX6_firstWrongInGroup.desc).map (fun d => d.parameters.length) = some 3 := by decide +kernel
theorem kX6_isFree : yX6_isFree.cls ≠ "java/lang/invoke/MethodHandle" ∧ yX6_isFree.cls ≠ "java/lang/invoke/VarHandle" ∧ (parseMethodDescriptor yX6_isFree.desc).map (fun d => d.parameters.length) = some 4 := by decide +kernel
theorem kX6_signOf : yX6_signOf.cls = RX6 ∧ yX6_signOf.cls ≠ "java/lang/invoke/MethodHandle" ∧ yX6_signOf.cls ≠ "java/lang/invoke/VarHandle" ∧ (parseMethodDescriptor yX6_signOf.desc).map (fun d => d.parameters.length) = some 1 := by decide +kernel
theorem kX6_sumOf : yX6_sumOf.cls = RX6 ∧ yX6_sumOf.cls ≠ "java/lang/invoke/MethodHandle" ∧ yX6_sumOf.cls ≠ "java/lang/invoke/VarHandle" ∧ (parseMethodDescriptor yX6_sumOf.desc).map (fun d => d.parameters.length) = some 2 := by decide +kernel
theorem kX7_begin : yX7_begin.cls = RX7 ∧ yX7_begin.cls ≠ "java/lang/invoke/MethodHandle" ∧ yX7_begin.cls ≠ "java/lang/invoke/VarHandle" ∧ (parseMethodDescriptor yX7_begin.desc).map (fun d => d.parameters.length) = some 3 := by decide +kernel
theorem kX7_byM : yX7_byM.cls = RX7 ∧ yX7_byM.cls ≠ "java/lang/invoke/MethodHandle" ∧ yX7_byM.cls ≠ "java/lang/invoke/VarHandle" ∧ (parseMethodDescriptor yX7_byM.desc).map (fun d => d.parameters.length) = some 1 := by decide +kernel
theorem kX7_direct : yX7_direct.cls = RX7 ∧ yX7_direct.cls ≠ "java/lang/invoke/MethodHandle" ∧ yX7_direct.cls ≠ "java/lang/invoke/VarHandle" ∧ (parseMethodDescriptor yX7_direct.desc).map (fun d => d.parameters.length) = some 1 := by decide +kernel
theorem kX7_directGather : yX7_directGather.cls = RX7 ∧ yX7_directGather.cls ≠ "java/lang/invoke/MethodHandle" ∧ yX7_directGather.cls ≠ "java/lang/invoke/VarHandle" ∧ (parseMethodDescriptor yX7_directGather.desc).map (fun d => d.parameters.length) = some 0 := by decide +kernel
theorem kX7_directTurn : yX7_directTurn.cls = RX7 ∧ yX7_directTurn.cls ≠ "java/lang/invoke/MethodHandle" ∧ yX7_directTurn.cls ≠ "java/lang/invoke/VarHandle" ∧ (parseMethodDescriptor yX7_directTurn.desc).map (fun d => d.parameters.length) = some 0 := by decide +kernel
theorem kX7_directWithRoot : yX7_directWithRoot.cls = RX7 ∧ yX7_directWithRoot.cls ≠ "java/lang/invoke/MethodHandle" ∧ yX7_directWithRoot.cls ≠ "java/lang/invoke/VarHandle" ∧ (parseMethodDescriptor yX7_directWithRoot.desc).map (fun d => d.parameters.length) = some 1 := by decide +kernel
theorem kX7_draw : yX7_draw.cls = RX7 ∧ yX7_draw.cls ≠ "java/lang/invoke/MethodHandle" ∧ yX7_draw.cls ≠ "java/lang/invoke/VarHandle" ∧ (parseMethodDescriptor yX7_draw.desc).map (fun d => d.parameters.length) = some 5 := by decide +kernel
theorem kX7_endStep : yX7_endStep.cls = RX7 ∧ yX7_endStep.cls ≠ "java/lang/invoke/MethodHandle" ∧ yX7_endStep.cls ≠ "java/lang/invoke/VarHandle" ∧ (parseMethodDescriptor yX7_endStep.desc).map (fun d => d.parameters.length) = some 0 := by decide +kernel
theorem kX7_give : yX7_give.cls = RX7 ∧ yX7_give.cls ≠ "java/lang/invoke/MethodHandle" ∧ yX7_give.cls ≠ "java/lang/invoke/VarHandle" ∧ (parseMethodDescriptor yX7_give.desc).map (fun d => d.parameters.length) = some 6 := by decide +kernel
theorem kX7_giveAll : yX7_giveAll.cls = RX7 ∧ yX7_giveAll.cls ≠ "java/lang/invoke/MethodHandle" ∧ yX7_giveAll.cls ≠ "java/lang/invoke/VarHandle" ∧ (parseMethodDescriptor yX7_giveAll.desc).map (fun d => d.parameters.length) = some 3 := by decide +kernel
theorem kX7_halving : yX7_halving.cls = RX7 ∧ yX7_halving.cls ≠ "java/lang/invoke/MethodHandle" ∧ yX7_halving.cls ≠ "java/lang/invoke/VarHandle" ∧ (parseMethodDescriptor yX7_halving.desc).map (fun d => d.parameters.length) = some 1 := by decide +kernel
theorem kX7_rankOfQ : yX7_rankOfQ.cls = RX7 ∧ yX7_rankOfQ.cls ≠ "java/lang/invoke/MethodHandle" ∧ yX7_rankOfQ.cls ≠ "java/lang/invoke/VarHandle" ∧ (parseMethodDescriptor yX7_rankOfQ.desc).map (fun d => d.parameters.length) = some 1 := by decide +kernel
theorem kX7_ring : yX7_ring.cls = RX7 ∧ yX7_ring.cls ≠ "java/lang/invoke/MethodHandle" ∧ yX7_ring.cls ≠ "java/lang/invoke/VarHandle" ∧ (parseMethodDescriptor yX7_ring.desc).map (fun d => d.parameters.length) = some 1 := by decide +kernel
theorem kX7_ringFromRoot : yX7_ringFromRoot.cls = RX7 ∧ yX7_ringFromRoot.cls ≠ "java/lang/invoke/MethodHandle" ∧ yX7_ringFromRoot.cls ≠ "java/lang/invoke/VarHandle" ∧ (parseMethodDescriptor yX7_ringFromRoot.desc).map (fun d => d.parameters.length) = some 2 := by decide +kernel
theorem kX7_ringOfAll : yX7_ringOfAll.cls = RX7 ∧ yX7_ringOfAll.cls ≠ "java/lang/invoke/MethodHandle" ∧ yX7_ringOfAll.cls ≠ "java/lang/invoke/VarHandle" ∧ (parseMethodDescriptor yX7_ringOfAll.desc).map (fun d => d.parameters.length) = some 2 := by decide +kernel
theorem kX7_tree : yX7_tree.cls = RX7 ∧ yX7_tree.cls ≠ "java/lang/invoke/MethodHandle" ∧ yX7_tree.cls ≠ "java/lang/invoke/VarHandle" ∧ (parseMethodDescriptor yX7_tree.desc).map (fun d => d.parameters.length) = some 1 := by decide +kernel
theorem kX7_treeStep : yX7_treeStep.cls = RX7 ∧ yX7_treeStep.cls ≠ "java/lang/invoke/MethodHandle" ∧ yX7_treeStep.cls ≠ "java/lang/invoke/VarHandle" ∧ (parseMethodDescriptor yX7_treeStep.desc).map (fun d => d.parameters.length) = some 2 := by decide +kernel
theorem kX8_blockOfCell : yX8_blockOfCell.cls ≠ "java/lang/invoke/MethodHandle" ∧ yX8_blockOfCell.cls ≠ "java/lang/invoke/VarHandle" ∧ (parseMethodDescriptor yX8_blockOfCell.desc).map (fun d => d.parameters.length) = some 1 := by decide +kernel
theorem kX8_cell : yX8_cell.cls ≠ "java/lang/invoke/MethodHandle" ∧ yX8_cell.cls ≠ "java/lang/invoke/VarHandle" ∧ (parseMethodDescriptor yX8_cell.desc).map (fun d => d.parameters.length) = some 2 := by decide +kernel
theorem kX8_draftTicks : yX8_draftTicks.cls = RX8 ∧ yX8_draftTicks.cls ≠ "java/lang/invoke/MethodHandle" ∧ yX8_draftTicks.cls ≠ "java/lang/invoke/VarHandle" ∧ (parseMethodDescriptor yX8_draftTicks.desc).map (fun d => d.parameters.length) = some 1 := by decide +kernel
theorem kX8_hostOfCell : yX8_hostOfCell.cls ≠ "java/lang/invoke/MethodHandle" ∧ yX8_hostOfCell.cls ≠ "java/lang/invoke/VarHandle" ∧ (parseMethodDescriptor yX8_hostOfCell.desc).map (fun d => d.parameters.length) = some 1 := by decide +kernel
theorem kX8_isAsked : yX8_isAsked.cls ≠ "java/lang/invoke/MethodHandle" ∧ yX8_isAsked.cls ≠ "java/lang/invoke/VarHandle" ∧ (parseMethodDescriptor yX8_isAsked.desc).map (fun d => d.parameters.length) = some 3 := by decide +kernel
theorem kX8_isBlock : yX8_isBlock.cls ≠ "java/lang/invoke/MethodHandle" ∧ yX8_isBlock.cls ≠ "java/lang/invoke/VarHandle" ∧ (parseMethodDescriptor yX8_isBlock.desc).map (fun d => d.parameters.length) = some 1 := by decide +kernel
theorem kX8_isCell : yX8_isCell.cls ≠ "java/lang/invoke/MethodHandle" ∧ yX8_isCell.cls ≠ "java/lang/invoke/VarHandle" ∧ (parseMethodDescriptor yX8_isCell.desc).map (fun d => d.parameters.length) = some 1 := by decide +kernel
theorem kX8_isPace : yX8_isPace.cls ≠ "java/lang/invoke/MethodHandle" ∧ yX8_isPace.cls ≠ "java/lang/invoke/VarHandle" ∧ (parseMethodDescriptor yX8_isPace.desc).map (fun d => d.parameters.length) = some 2 := by decide +kernel
theorem kX9_areJoined : yX9_areJoined.cls = RX9 ∧ yX9_areJoined.cls ≠ "java/lang/invoke/MethodHandle" ∧ yX9_areJoined.cls ≠ "java/lang/invoke/VarHandle" ∧ (parseMethodDescriptor yX9_areJoined.desc).map (fun d => d.parameters.length) = some 2 := by decide +kernel
theorem kX9_direct : yX9_direct.cls = RX9 ∧ yX9_direct.cls ≠ "java/lang/invoke/MethodHandle" ∧ yX9_direct.cls ≠ "java/lang/invoke/VarHandle" ∧ (parseMethodDescriptor yX9_direct.desc).map (fun d => d.parameters.length) = some 3 := by decide +kernel
theorem kX9_due : yX9_due.cls = RX9 ∧ yX9_due.cls ≠ "java/lang/invoke/MethodHandle" ∧ yX9_due.cls ≠ "java/lang/invoke/VarHandle" ∧ (parseMethodDescriptor yX9_due.desc).map (fun d => d.parameters.length) = some 7 := by decide +kernel
theorem kX9_follow : yX9_follow.cls = RX9 ∧ yX9_follow.cls ≠ "java/lang/invoke/MethodHandle" ∧ yX9_follow.cls ≠ "java/lang/invoke/VarHandle" ∧ (parseMethodDescriptor yX9_follow.desc).map (fun d => d.parameters.length) = some 0 := by decide +kernel
theorem kX9_halve : yX9_halve.cls = RX9 ∧ yX9_halve.cls ≠ "java/lang/invoke/MethodHandle" ∧ yX9_halve.cls ≠ "java/lang/invoke/VarHandle" ∧ (parseMethodDescriptor yX9_halve.desc).map (fun d => d.parameters.length) = some 2 := by decide +kernel
theorem kX9_hostOf : yX9_hostOf.cls = RX9 ∧ yX9_hostOf.cls ≠ "java/lang/invoke/MethodHandle" ∧ yX9_hostOf.cls ≠ "java/lang/invoke/VarHandle" ∧ (parseMethodDescriptor yX9_hostOf.desc).map (fun d => d.parameters.length) = some 1 := by decide +kernel
theorem kX9_in : yX9_in.cls ≠ "java/lang/invoke/MethodHandle" ∧ yX9_in.cls ≠ "java/lang/invoke/VarHandle" ∧ (parseMethodDescriptor yX9_in.desc).map (fun d => d.parameters.length) = some 3 := by decide +kernel
theorem kX9_isAsk : yX9_isAsk.cls = RX9 ∧ yX9_isAsk.cls ≠ "java/lang/invoke/MethodHandle" ∧ yX9_isAsk.cls ≠ "java/lang/invoke/VarHandle" ∧ (parseMethodDescriptor yX9_isAsk.desc).map (fun d => d.parameters.length) = some 2 := by decide +kernel
theorem kX9_isHost : yX9_isHost.cls = RX9 ∧ yX9_isHost.cls ≠ "java/lang/invoke/MethodHandle" ∧ yX9_isHost.cls ≠ "java/lang/invoke/VarHandle" ∧ (parseMethodDescriptor yX9_isHost.desc).map (fun d => d.parameters.length) = some 1 := by decide +kernel
theorem kX9_isLive : yX9_isLive.cls = RX9 ∧ yX9_isLive.cls ≠ "java/lang/invoke/MethodHandle" ∧ yX9_isLive.cls ≠ "java/lang/invoke/VarHandle" ∧ (parseMethodDescriptor yX9_isLive.desc).map (fun d => d.parameters.length) = some 1 := by decide +kernel
theorem kX9_isWay : yX9_isWay.cls ≠ "java/lang/invoke/MethodHandle" ∧ yX9_isWay.cls ≠ "java/lang/invoke/VarHandle" ∧ (parseMethodDescriptor yX9_isWay.desc).map (fun d => d.parameters.length) = some 3 := by decide +kernel
theorem kX9_keyOf : yX9_keyOf.cls ≠ "java/lang/invoke/MethodHandle" ∧ yX9_keyOf.cls ≠ "java/lang/invoke/VarHandle" ∧ (parseMethodDescriptor yX9_keyOf.desc).map (fun d => d.parameters.length) = some 3 := by decide +kernel
theorem kX9_lay : yX9_lay.cls = RX9 ∧ yX9_lay.cls ≠ "java/lang/invoke/MethodHandle" ∧ yX9_lay.cls ≠ "java/lang/invoke/VarHandle" ∧ (parseMethodDescriptor yX9_lay.desc).map (fun d => d.parameters.length) = some 6 := by decide +kernel
theorem kX9_letter : yX9_letter.cls ≠ "java/lang/invoke/MethodHandle" ∧ yX9_letter.cls ≠ "java/lang/invoke/VarHandle" ∧ (parseMethodDescriptor yX9_letter.desc).map (fun d => d.parameters.length) = some 5 := by decide +kernel
theorem kX9_letters : yX9_letters.cls = RX9 ∧ yX9_letters.cls ≠ "java/lang/invoke/MethodHandle" ∧ yX9_letters.cls ≠ "java/lang/invoke/VarHandle" ∧ (parseMethodDescriptor yX9_letters.desc).map (fun d => d.parameters.length) = some 0 := by decide +kernel
theorem kX9_lines : yX9_lines.cls = RX9 ∧ yX9_lines.cls ≠ "java/lang/invoke/MethodHandle" ∧ yX9_lines.cls ≠ "java/lang/invoke/VarHandle" ∧ (parseMethodDescriptor yX9_lines.desc).map (fun d => d.parameters.length) = some 0 := by decide +kernel
theorem kX9_liveMany : yX9_liveMany.cls = RX9 ∧ yX9_liveMany.cls ≠ "java/lang/invoke/MethodHandle" ∧ yX9_liveMany.cls ≠ "java/lang/invoke/VarHandle" ∧ (parseMethodDescriptor yX9_liveMany.desc).map (fun d => d.parameters.length) = some 0 := by decide +kernel
theorem kX9_make : yX9_make.cls = RX9 ∧ yX9_make.cls ≠ "java/lang/invoke/MethodHandle" ∧ yX9_make.cls ≠ "java/lang/invoke/VarHandle" ∧ (parseMethodDescriptor yX9_make.desc).map (fun d => d.parameters.length) = some 3 := by decide +kernel
theorem kX9_put : yX9_put.cls = RX9 ∧ yX9_put.cls ≠ "java/lang/invoke/MethodHandle" ∧ yX9_put.cls ≠ "java/lang/invoke/VarHandle" ∧ (parseMethodDescriptor yX9_put.desc).map (fun d => d.parameters.length) = some 7 := by decide +kernel
theorem kX9_rankOf : yX9_rankOf.cls = RX9 ∧ yX9_rankOf.cls ≠ "java/lang/invoke/MethodHandle" ∧ yX9_rankOf.cls ≠ "java/lang/invoke/VarHandle" ∧ (parseMethodDescriptor yX9_rankOf.desc).map (fun d => d.parameters.length) = some 1 := by decide +kernel
theorem kX9_ring : yX9_ring.cls = RX9 ∧ yX9_ring.cls ≠ "java/lang/invoke/MethodHandle" ∧ yX9_ring.cls ≠ "java/lang/invoke/VarHandle" ∧ (parseMethodDescriptor yX9_ring.desc).map (fun d => d.parameters.length) = some 3 := by decide +kernel
theorem kX9_spread : yX9_spread.cls = RX9 ∧ yX9_spread.cls ≠ "java/lang/invoke/MethodHandle" ∧ yX9_spread.cls ≠ "java/lang/invoke/VarHandle" ∧ (parseMethodDescriptor yX9_spread.desc).map (fun d => d.parameters.length) = some 3 := by decide +kernel
theorem kX9_stepsOf : yX9_stepsOf.cls ≠ "java/lang/invoke/MethodHandle" ∧ yX9_stepsOf.cls ≠ "java/lang/invoke/VarHandle" ∧ (parseMethodDescriptor yX9_stepsOf.desc).map (fun d => d.parameters.length) = some 2 := by decide +kernel
theorem kX9_ticksOf : yX9_ticksOf.cls = RX9 ∧ yX9_ticksOf.cls ≠ "java/lang/invoke/MethodHandle" ∧ yX9_ticksOf.cls ≠ "java/lang/invoke/VarHandle" ∧ (parseMethodDescriptor yX9_ticksOf.desc).map (fun d => d.parameters.length) = some 2 := by decide +kernel
theorem kX9_tie : yX9_tie.cls = RX9 ∧ yX9_tie.cls ≠ "java/lang/invoke/MethodHandle" ∧ yX9_tie.cls ≠ "java/lang/invoke/VarHandle" ∧ (parseMethodDescriptor yX9_tie.desc).map (fun d => d.parameters.length) = some 4 := by decide +kernel
theorem kX9_timeOf : yX9_timeOf.cls = RX9 ∧ yX9_timeOf.cls ≠ "java/lang/invoke/MethodHandle" ∧ yX9_timeOf.cls ≠ "java/lang/invoke/VarHandle" ∧ (parseMethodDescriptor yX9_timeOf.desc).map (fun d => d.parameters.length) = some 3 := by decide +kernel
theorem kX9_tree : yX9_tree.cls = RX9 ∧ yX9_tree.cls ≠ "java/lang/invoke/MethodHandle" ∧ yX9_tree.cls ≠ "java/lang/invoke/VarHandle" ∧ (parseMethodDescriptor yX9_tree.desc).map (fun d => d.parameters.length) = some 3 := by decide +kernel
theorem kX9_turns : yX9_turns.cls ≠ "java/lang/invoke/MethodHandle" ∧ yX9_turns.cls ≠ "java/lang/invoke/VarHandle" ∧ (parseMethodDescriptor yX9_turns.desc).map (fun d => d.parameters.length) = some 1 := by decide +kernel
theorem kX9_unlink : yX9_unlink.cls = RX9 ∧ yX9_unlink.cls ≠ "java/lang/invoke/MethodHandle" ∧ yX9_unlink.cls ≠ "java/lang/invoke/VarHandle" ∧ (parseMethodDescriptor yX9_unlink.desc).map (fun d => d.parameters.length) = some 0 := by decide +kernel
theorem iX0_endOf_X0 : ∀ w ∈ u_ws RX0 TX0 2, w ∈ wsX0_endOf := by decide +kernel
theorem iX0_takeLetter_X0 : ∀ w ∈ u_ws RX0 TX0 2, w ∈ wsX0_takeLetter := by decide +kernel
theorem iX2_addDown_X2 : ∀ w ∈ u_ws RX2 TX2 2, w ∈ wsX2_addDown := by decide +kernel
theorem iX2_change_X2 : ∀ w ∈ u_ws RX2 TX2 2, w ∈ wsX2_change := by decide +kernel
theorem iX2_putDown_X2 : ∀ w ∈ u_ws RX2 TX2 2, w ∈ wsX2_putDown := by decide +kernel
theorem iX2_takeUp_X2 : ∀ w ∈ u_ws RX2 TX2 2, w ∈ wsX2_takeUp := by decide +kernel
theorem iX2_value_X2 : ∀ w ∈ u_ws RX2 TX2 2, w ∈ wsX2_value := by decide +kernel
theorem iX2_zero_X2 : ∀ w ∈ u_ws RX2 TX2 2, w ∈ wsX2_zero := by decide +kernel
theorem iX3_begin_X3 : ∀ w ∈ u_ws RX3 TX3 9, w ∈ wsX3_begin := by decide +kernel
theorem iX3_delay_X3 : ∀ w ∈ u_ws RX3 TX3 9, w ∈ wsX3_delay := by decide +kernel
theorem iX3_hasLine_X3 : ∀ w ∈ u_ws RX3 TX3 9, w ∈ wsX3_hasLine := by decide +kernel
theorem iX3_hostOf_X3 : ∀ w ∈ u_ws RX3 TX3 9, w ∈ wsX3_hostOf := by decide +kernel
theorem iX3_isHost_X3 : ∀ w ∈ u_ws RX3 TX3 9, w ∈ wsX3_isHost := by decide +kernel
theorem iX3_isInForm_X3 : ∀ w ∈ u_ws RX3 TX3 9, w ∈ wsX3_isInForm := by decide +kernel
theorem iX3_isLastLive_X3 : ∀ w ∈ u_ws RX3 TX3 9, w ∈ wsX3_isLastLive := by decide +kernel
theorem iX3_isLive_X3 : ∀ w ∈ u_ws RX3 TX3 9, w ∈ wsX3_isLive := by decide +kernel
theorem iX3_joinByForm_X3 : ∀ w ∈ u_ws RX3 TX3 9, w ∈ wsX3_joinByForm := by decide +kernel
theorem iX3_join_X3 : ∀ w ∈ u_ws RX3 TX3 9, w ∈ wsX3_join := by decide +kernel
theorem iX3_latenessOf_X3 : ∀ w ∈ u_ws RX3 TX3 9, w ∈ wsX3_latenessOf := by decide +kernel
theorem iX3_letterTicks_X3 : ∀ w ∈ u_ws RX3 TX3 9, w ∈ wsX3_letterTicks := by decide +kernel
theorem iX3_lines_X3 : ∀ w ∈ u_ws RX3 TX3 9, w ∈ wsX3_lines := by decide +kernel
theorem iX3_part_X3 : ∀ w ∈ u_ws RX3 TX3 9, w ∈ wsX3_part := by decide +kernel
theorem iX3_rankAnew_X3 : ∀ w ∈ u_ws RX3 TX3 9, w ∈ wsX3_rankAnew := by decide +kernel
theorem iX3_rankOf_X3 : ∀ w ∈ u_ws RX3 TX3 9, w ∈ wsX3_rankOf := by decide +kernel
theorem iX3_ranks_X3 : ∀ w ∈ u_ws RX3 TX3 9, w ∈ wsX3_ranks := by decide +kernel
theorem iX3_size_X3 : ∀ w ∈ u_ws RX3 TX3 9, w ∈ wsX3_size := by decide +kernel
theorem iX3_turn_X3 : ∀ w ∈ u_ws RX3 TX3 9, w ∈ wsX3_turn := by decide +kernel
theorem iX4_empty_X4 : ∀ w ∈ u_ws RX4 TX4 2, w ∈ wsX4_empty := by decide +kernel
theorem iX4_endsLetter_X4 : ∀ w ∈ u_ws RX4 TX4 2, w ∈ wsX4_endsLetter := by decide +kernel
theorem iX4_endsStep_X4 : ∀ w ∈ u_ws RX4 TX4 2, w ∈ wsX4_endsStep := by decide +kernel
theorem iX4_forbids_X4 : ∀ w ∈ u_ws RX4 TX4 2, w ∈ wsX4_forbids := by decide +kernel
theorem iX4_isFull_X4 : ∀ w ∈ u_ws RX4 TX4 2, w ∈ wsX4_isFull := by decide +kernel
theorem iX4_letters_X4 : ∀ w ∈ u_ws RX4 TX4 2, w ∈ wsX4_letters := by decide +kernel
theorem iX4_place_X4 : ∀ w ∈ u_ws RX4 TX4 2, w ∈ wsX4_place := by decide +kernel
theorem iX4_sendAt_X4 : ∀ w ∈ u_ws RX4 TX4 2, w ∈ wsX4_sendAt := by decide +kernel
theorem iX4_size_X4 : ∀ w ∈ u_ws RX4 TX4 2, w ∈ wsX4_size := by decide +kernel
theorem iX4_steps_X4 : ∀ w ∈ u_ws RX4 TX4 2, w ∈ wsX4_steps := by decide +kernel
theorem iX5_leastSteps_X5 : ∀ w ∈ u_ws RX5 TX5 5, w ∈ wsX5_leastSteps := by decide +kernel
theorem iX5_letSend_X5 : ∀ w ∈ u_ws RX5 TX5 5, w ∈ wsX5_letSend := by decide +kernel
theorem iX5_readLines_X5 : ∀ w ∈ u_ws RX5 TX5 5, w ∈ wsX5_readLines := by decide +kernel
theorem iX5_stepFrom_X5 : ∀ w ∈ u_ws RX5 TX5 5, w ∈ wsX5_stepFrom := by decide +kernel
theorem iX6_addDown_X6 : ∀ w ∈ u_ws RX6 TX6 5, w ∈ wsX6_addDown := by decide +kernel
theorem iX6_begin_X6 : ∀ w ∈ u_ws RX6 TX6 5, w ∈ wsX6_begin := by decide +kernel
theorem iX6_firstWrongInGroup_X6 : ∀ w ∈ u_ws RX6 TX6 5, w ∈ wsX6_firstWrongInGroup := by decide +kernel
theorem iX6_putDown_X6 : ∀ w ∈ u_ws RX6 TX6 5, w ∈ wsX6_putDown := by decide +kernel
theorem iX6_signOf_X6 : ∀ w ∈ u_ws RX6 TX6 5, w ∈ wsX6_signOf := by decide +kernel
theorem iX6_sumOf_X6 : ∀ w ∈ u_ws RX6 TX6 5, w ∈ wsX6_sumOf := by decide +kernel
theorem iX6_takeUp_X6 : ∀ w ∈ u_ws RX6 TX6 5, w ∈ wsX6_takeUp := by decide +kernel
theorem iX7_begin_X7 : ∀ w ∈ u_ws RX7 TX7 6, w ∈ wsX7_begin := by decide +kernel
theorem iX7_byM_X7 : ∀ w ∈ u_ws RX7 TX7 6, w ∈ wsX7_byM := by decide +kernel
theorem iX7_directGather_X7 : ∀ w ∈ u_ws RX7 TX7 6, w ∈ wsX7_directGather := by decide +kernel
theorem iX7_directTurn_X7 : ∀ w ∈ u_ws RX7 TX7 6, w ∈ wsX7_directTurn := by decide +kernel
theorem iX7_directWithRoot_X7 : ∀ w ∈ u_ws RX7 TX7 6, w ∈ wsX7_directWithRoot := by decide +kernel
theorem iX7_draw_X7 : ∀ w ∈ u_ws RX7 TX7 6, w ∈ wsX7_draw := by decide +kernel
theorem iX7_endStep_X7 : ∀ w ∈ u_ws RX7 TX7 6, w ∈ wsX7_endStep := by decide +kernel
theorem iX7_giveAll_X7 : ∀ w ∈ u_ws RX7 TX7 6, w ∈ wsX7_giveAll := by decide +kernel
theorem iX7_give_X7 : ∀ w ∈ u_ws RX7 TX7 6, w ∈ wsX7_give := by decide +kernel
theorem iX7_halving_X7 : ∀ w ∈ u_ws RX7 TX7 6, w ∈ wsX7_halving := by decide +kernel
theorem iX7_rankOfQ_X7 : ∀ w ∈ u_ws RX7 TX7 6, w ∈ wsX7_rankOfQ := by decide +kernel
theorem iX7_ringFromRoot_X7 : ∀ w ∈ u_ws RX7 TX7 6, w ∈ wsX7_ringFromRoot := by decide +kernel
theorem iX7_ringOfAll_X7 : ∀ w ∈ u_ws RX7 TX7 6, w ∈ wsX7_ringOfAll := by decide +kernel
theorem iX7_treeStep_X7 : ∀ w ∈ u_ws RX7 TX7 6, w ∈ wsX7_treeStep := by decide +kernel
theorem iX7_tree_X7 : ∀ w ∈ u_ws RX7 TX7 6, w ∈ wsX7_tree := by decide +kernel
theorem iX8_best_X8 : ∀ w ∈ u_ws RX8 TX8 8, w ∈ wsX8_best := by decide +kernel
theorem iX8_build_X8 : ∀ w ∈ u_ws RX8 TX8 8, w ∈ wsX8_build := by decide +kernel
theorem iX8_clear_X8 : ∀ w ∈ u_ws RX8 TX8 8, w ∈ wsX8_clear := by decide +kernel
theorem iX8_count_X8 : ∀ w ∈ u_ws RX8 TX8 8, w ∈ wsX8_count := by decide +kernel
theorem iX8_draftTicks_X8 : ∀ w ∈ u_ws RX8 TX8 8, w ∈ wsX8_draftTicks := by decide +kernel
theorem iX8_fewest_X8 : ∀ w ∈ u_ws RX8 TX8 8, w ∈ wsX8_fewest := by decide +kernel
theorem iX8_freely_X8 : ∀ w ∈ u_ws RX8 TX8 8, w ∈ wsX8_freely := by decide +kernel
theorem iX8_hosts_X8 : ∀ w ∈ u_ws RX8 TX8 8, w ∈ wsX8_hosts := by decide +kernel
theorem iX8_late_X8 : ∀ w ∈ u_ws RX8 TX8 8, w ∈ wsX8_late := by decide +kernel
theorem iX8_line_X8 : ∀ w ∈ u_ws RX8 TX8 8, w ∈ wsX8_line := by decide +kernel
theorem iX8_live_X8 : ∀ w ∈ u_ws RX8 TX8 8, w ∈ wsX8_live := by decide +kernel
theorem iX8_net_X8 : ∀ w ∈ u_ws RX8 TX8 8, w ∈ wsX8_net := by decide +kernel
theorem iX8_price_X8 : ∀ w ∈ u_ws RX8 TX8 8, w ∈ wsX8_price := by decide +kernel
theorem iX8_right_X8 : ∀ w ∈ u_ws RX8 TX8 8, w ∈ wsX8_right := by decide +kernel
theorem iX8_run_X8 : ∀ w ∈ u_ws RX8 TX8 8, w ∈ wsX8_run := by decide +kernel
theorem iX8_send_X8 : ∀ w ∈ u_ws RX8 TX8 8, w ∈ wsX8_send := by decide +kernel
theorem iX8_sent_X8 : ∀ w ∈ u_ws RX8 TX8 8, w ∈ wsX8_sent := by decide +kernel
theorem iX8_set_X8 : ∀ w ∈ u_ws RX8 TX8 8, w ∈ wsX8_set := by decide +kernel
theorem iX8_ticks_X8 : ∀ w ∈ u_ws RX8 TX8 8, w ∈ wsX8_ticks := by decide +kernel
theorem iX9_areJoined_X9 : ∀ w ∈ u_ws RX9 TX9 19, w ∈ wsX9_areJoined := by decide +kernel
theorem iX9_at_X9 : ∀ w ∈ u_ws RX9 TX9 19, w ∈ wsX9_at := by decide +kernel
theorem iX9_best_X9 : ∀ w ∈ u_ws RX9 TX9 19, w ∈ wsX9_best := by decide +kernel
theorem iX9_build_X9 : ∀ w ∈ u_ws RX9 TX9 19, w ∈ wsX9_build := by decide +kernel
theorem iX9_clear_X9 : ∀ w ∈ u_ws RX9 TX9 19, w ∈ wsX9_clear := by decide +kernel
theorem iX9_count_X9 : ∀ w ∈ u_ws RX9 TX9 19, w ∈ wsX9_count := by decide +kernel
theorem iX9_direct_X9 : ∀ w ∈ u_ws RX9 TX9 19, w ∈ wsX9_direct := by decide +kernel
theorem iX9_follow_X9 : ∀ w ∈ u_ws RX9 TX9 19, w ∈ wsX9_follow := by decide +kernel
theorem iX9_freely_X9 : ∀ w ∈ u_ws RX9 TX9 19, w ∈ wsX9_freely := by decide +kernel
theorem iX9_hostOf_X9 : ∀ w ∈ u_ws RX9 TX9 19, w ∈ wsX9_hostOf := by decide +kernel
theorem iX9_hosts_X9 : ∀ w ∈ u_ws RX9 TX9 19, w ∈ wsX9_hosts := by decide +kernel
theorem iX9_isHost_X9 : ∀ w ∈ u_ws RX9 TX9 19, w ∈ wsX9_isHost := by decide +kernel
theorem iX9_isLive_X9 : ∀ w ∈ u_ws RX9 TX9 19, w ∈ wsX9_isLive := by decide +kernel
theorem iX9_late_X9 : ∀ w ∈ u_ws RX9 TX9 19, w ∈ wsX9_late := by decide +kernel
theorem iX9_lay_X9 : ∀ w ∈ u_ws RX9 TX9 19, w ∈ wsX9_lay := by decide +kernel
theorem iX9_letters_X9 : ∀ w ∈ u_ws RX9 TX9 19, w ∈ wsX9_letters := by decide +kernel
theorem iX9_line_X9 : ∀ w ∈ u_ws RX9 TX9 19, w ∈ wsX9_line := by decide +kernel
theorem iX9_lines_X9 : ∀ w ∈ u_ws RX9 TX9 19, w ∈ wsX9_lines := by decide +kernel
theorem iX9_liveMany_X9 : ∀ w ∈ u_ws RX9 TX9 19, w ∈ wsX9_liveMany := by decide +kernel
theorem iX9_live_X9 : ∀ w ∈ u_ws RX9 TX9 19, w ∈ wsX9_live := by decide +kernel
theorem iX9_make_X9 : ∀ w ∈ u_ws RX9 TX9 19, w ∈ wsX9_make := by decide +kernel
theorem iX9_net_X9 : ∀ w ∈ u_ws RX9 TX9 19, w ∈ wsX9_net := by decide +kernel
theorem iX9_price_X9 : ∀ w ∈ u_ws RX9 TX9 19, w ∈ wsX9_price := by decide +kernel
theorem iX9_put_X9 : ∀ w ∈ u_ws RX9 TX9 19, w ∈ wsX9_put := by decide +kernel
theorem iX9_rankOf_X9 : ∀ w ∈ u_ws RX9 TX9 19, w ∈ wsX9_rankOf := by decide +kernel
theorem iX9_right_X9 : ∀ w ∈ u_ws RX9 TX9 19, w ∈ wsX9_right := by decide +kernel
theorem iX9_run_X9 : ∀ w ∈ u_ws RX9 TX9 19, w ∈ wsX9_run := by decide +kernel
theorem iX9_send_X9 : ∀ w ∈ u_ws RX9 TX9 19, w ∈ wsX9_send := by decide +kernel
theorem iX9_sent_X9 : ∀ w ∈ u_ws RX9 TX9 19, w ∈ wsX9_sent := by decide +kernel
theorem iX9_set_X9 : ∀ w ∈ u_ws RX9 TX9 19, w ∈ wsX9_set := by decide +kernel
theorem iX9_thrown_X9 : ∀ w ∈ u_ws RX9 TX9 19, w ∈ wsX9_thrown := by decide +kernel
theorem iX9_ticks_X9 : ∀ w ∈ u_ws RX9 TX9 19, w ∈ wsX9_ticks := by decide +kernel
theorem iX9_tie_X9 : ∀ w ∈ u_ws RX9 TX9 19, w ∈ wsX9_tie := by decide +kernel
theorem iX9_timeOf_X9 : ∀ w ∈ u_ws RX9 TX9 19, w ∈ wsX9_timeOf := by decide +kernel
theorem iX9_unlink_X9 : ∀ w ∈ u_ws RX9 TX9 19, w ∈ wsX9_unlink := by decide +kernel
