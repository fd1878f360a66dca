set_option maxRecDepth 20000 in
theorem ggL_at_X8_at : GoodIn wsLq wsX8q := goodIn_ca (goodIn_r _ [6, 7, 8, 9, 10, 11, 12, 13, 14, 15, 16, 17, 18, 5, 19, 20, 21, 22, 23, 24, 25, 26, 27, 28, 29, 30, 31, 32, 33, 34, 35, 36, 37, 38, 39, 40, 41, 42, 43, 44, 45, 46, 47, 48, 49] (by decide +kernel) (by decide +kernel)) (goodIn_sub (fun _ h => List.mem_cons_of_mem _ (List.mem_append_right _ h)) (by decide +kernel))
set_option maxRecDepth 20000 in
theorem gL_at_X8_at : GoodIn wsLq (wsV RL 7 RX8 yX8_at wsX8q) := goodIn_app (goodIn_of _ (by decide +kernel)) ggL_at_X8_at
set_option maxRecDepth 20000 in
theorem ggL_law_L_at : GoodIn wsLw wsLq := goodIn_ca (goodIn_r _ [254, 255, 256, 257, 258, 2, 259, 260, 261, 16, 20, 234, 159, 160, 15, 161, 58, 235, 236, 237, 238, 239, 240, 262, 263, 264, 19, 265, 71, 245, 246, 814, 815, 816, 817, 818, 819, 820, 821, 841, 842, 843, 844, 845, 846, 847, 848, 849, 850, 851] (by decide +kernel) (by decide +kernel)) (goodIn_sub (fun _ h => List.mem_append_right _ h) (by decide +kernel))
set_option maxRecDepth 20000 in
theorem gL_law_L_at : GoodIn wsLw (va_wsS RL 39 yL_at wsLq) := goodIn_app (goodIn_of _ (by decide +kernel)) ggL_law_L_at
theorem kX8_at : yX8_at.cls = RX8 ∧ yX8_at.cls ≠ "java/lang/invoke/MethodHandle" ∧ yX8_at.cls ≠ "java/lang/invoke/VarHandle" ∧ (parseMethodDescriptor yX8_at.desc).map (fun d => d.parameters.length) = some 2 := by decide +kernel
theorem kL_at : yL_at.cls ≠ "java/lang/invoke/MethodHandle" ∧ yL_at.cls ≠ "java/lang/invoke/VarHandle" ∧ (parseMethodDescriptor yL_at.desc).map (fun d => d.parameters.length) = some 4 := by decide +kernel
theorem zL_code : Cond.codeWith yL_at cL_at 5 (some .int) [(0, 10, 13, 13)] ∈ wsLq := List.mem_cons_self
theorem zL_link : Cond.classLink RL 13 zxE ∈ wsLq := by decide +kernel
set_option maxHeartbeats 4000000 in
set_option maxRecDepth 100000 in
theorem c_L_at_ok (l : Launch) (G : va_G) (cy : Nat → ClassId) (fu : Nat) (tq : Nat → Nat) (hq : Nat → Nat) (nq : Nat → Nat) (sq : Nat → Nat) (kq : Nat → Nat) (wq : Nat → Nat) (rq : Nat → Nat) (oq : Nat) (h_alive : Nat → Int32) (h_late : Nat → Int32) (h_hbr : Nat → Int32) (h_rbh : Nat → Int32) (h_waits : Nat → Int32) (h_pers : Nat → Int32) (h_size : Int32) (h_ranks : Int32) (h_lines : Int32) (e_num : Nat → Int32) (e_und : Nat → Int32) (t_plan : Value) (t_draft : Value) (o_out : Nat → Int64) (x1 : Int32) (x2 : Int32) (rr : Int32) (h : f_X8_at fu h_size e_num x1 x2 = some rr) (sz : Nat) : vx_Met l yL_at wsLq (zRI 4 0 0 100) (va_Pc [.ref (tq 0), .int x1, .int x2, .ref oq] (zPre G cy (wS cy tq hq nq sq kq wq rq t_plan t_draft ++ wH cy hq h_alive h_late h_hbr h_rbh h_waits h_pers h_size h_ranks h_lines ++ wE cy nq e_num e_und ++ [(oq, .inl (cy 1, 1, .inr (.inl o_out)))]) sz)) (zQ G (wS cy tq hq nq sq kq wq rq t_plan t_draft ++ wH cy hq h_alive h_late h_hbr h_rbh h_waits h_pers h_size h_ranks h_lines ++ wE cy nq e_num e_und ++ [(oq, .inl (cy 1, 1, .inr (.inl (vp_updL o_out 0 rr.toInt64))))]) (va_A (wS cy tq hq nq sq kq wq rq t_plan t_draft ++ wH cy hq h_alive h_late h_hbr h_rbh h_waits h_pers h_size h_ranks h_lines ++ wE cy nq e_num e_und ++ [(oq, .inl (cy 1, 1, .inr (.inl o_out)))]) sz) (some (.int 0))) (fun _ _ _ => False) 0 0 (va_A (wS cy tq hq nq sq kq wq rq t_plan t_draft ++ wH cy hq h_alive h_late h_hbr h_rbh h_waits h_pers h_size h_ranks h_lines ++ wE cy nq e_num e_und ++ [(oq, .inl (cy 1, 1, .inr (.inl o_out)))]) sz) := by
  refine vx_ofWH (cc := cL_at) (maxL := 5) (ret := (some .int)) (hh := [(0, 10, 13, 13)]) (by decide) rfl ?_
  intro p e s m args below meth c s₁ B hml hv
  rw [show (headSpec wsLq (zRI 4 0 0 100)).room = zRI 4 0 0 100 from rfl]
  obtain ⟨rfl, hsz, hP, hK, hD0, hN, hZ⟩ := hv
  subst hsz
  have htab := vx_table (x := yL_at) B (atoms_spec B.pre _ zL_code)
  have hr : meth.sig.returnType = some .int := B.returns
  have hl := lv_entry ([.ref (tq 0), .int x1, .int x2, .ref oq]) (n := 5) (Nat.le_of_ble_eq_true rfl)
  rw [lg_entry_eq]
  generalize (lg_sl ([.ref (tq 0), .int x1, .int x2, .ref oq]) ++ List.replicate (5 - (lg_sl ([.ref (tq 0), .int x1, .int x2, .ref oq])).length) Slot.unset).toArray = ls at hl ⊢
  have hD := hD0.self (sz := s.heap.size)
  generalize hAe : va_A (wS cy tq hq nq sq kq wq rq t_plan t_draft ++ wH cy hq h_alive h_late h_hbr h_rbh h_waits h_pers h_size h_ranks h_lines ++ wE cy nq e_num e_und ++ [(oq, .inl (cy 1, 1, .inr (.inl o_out)))]) s.heap.size = A at *
  have X : zX p s m [.ref (tq 0), .int x1, .int x2, .ref oq].toArray meth c RL cL_at 5 wsLq G cy A := ⟨⟨B.exec, B.bytes, hml, findClass_of_methodNamed B.named, atoms_spec B.pre⟩, hK, hN, fun q hq => by rw [← hAe]; exact Or.inr hq, B.notSynchronized, hZ⟩
  have hH : zH G A s.heap (wS cy tq hq nq sq kq wq rq t_plan t_draft ++ wH cy hq h_alive h_late h_hbr h_rbh h_waits h_pers h_size h_ranks h_lines ++ wE cy nq e_num e_und ++ [(oq, .inl (cy 1, 1, .inr (.inl o_out)))]) s.heap [] := ⟨hP, hD, va_S.rf⟩
  have hx := X.1.1
  have hb := X.1.2.1
  replace hl : lv_has ls 5 [(0, .ref (tq 0)), (1, .int x1), (2, .int x2), (3, .ref oq)] := hl
  refine lv_aload_n (pc := 0) hx hb dL_at_0 rfl (lv_at hl 3 rfl) ?_
  refine lv_iconst (v := 0) (pc := 1) hx hb dL_at_1 zk_c0 ?_
  refine lv_aload_n (pc := 2) hx hb dL_at_2 rfl (lv_at hl 0 rfl) ?_
  refine lv_iload_n (pc := 3) hx hb dL_at_3 rfl (lv_at hl 1 rfl) ?_
  refine lv_iload_n (pc := 4) hx hb dL_at_4 rfl (lv_at hl 2 rfl) ?_
  refine zcV (pc := 5) (As := [.int x1, .int x2]) (rest := [.int 0, .ref oq]) (st1 := [.int rr, .int 0, .ref oq]) (ws' := wS cy tq hq nq sq kq wq rq t_plan t_draft ++ wH cy hq h_alive h_late h_hbr h_rbh h_waits h_pers h_size h_ranks h_lines ++ wE cy nq e_num e_und ++ [(oq, .inl (cy 1, 1, .inr (.inl o_out)))]) (wr := [(oq, .inl (cy 1, 1, .inr (.inl o_out)))]) (n := 2) (q0 := 0) X (c_X8_at_ok l G cy fu tq hq nq sq kq wq rq h_alive h_late h_hbr h_rbh h_waits h_pers h_size h_ranks h_lines e_num e_und t_plan t_draft x1 x2 rr h) hH [0, 1, 2, 3, 4, 5, 6, 7, 8, 9, 10] [11] [1, 2, 3, 4, 5, 6, 7, 8, 9, 10, 11, 0] rfl rfl rfl rfl gL_at_X8_at rfl ⟨rfl, rfl⟩ kX8_at ⟨Nat.le_of_ble_eq_true rfl, Nat.le_of_ble_eq_true rfl⟩ rfl rfl rfl rfl rfl hl.1 (Nat.le_of_ble_eq_true rfl) ⟨Nat.le_of_ble_eq_true rfl, Nat.le_of_ble_eq_true rfl⟩ dL_at_5 (fun H locs hH => ?_)
  refine lv_i2l (pc := 8) hx hb dL_at_8 rfl ?_
  refine z_last (pc := 9) (ws' := wS cy tq hq nq sq kq wq rq t_plan t_draft ++ wH cy hq h_alive h_late h_hbr h_rbh h_waits h_pers h_size h_ranks h_lines ++ wE cy nq e_num e_und ++ [(oq, .inl (cy 1, 1, .inr (.inl (vp_updL o_out 0 rr.toInt64))))]) X hH 11 rfl (by decide) rfl dL_at_9 (fun H locs hH => ?_)
  refine lv_goto (pc := 10) (tgt := 17) hx hb dL_at_10 rfl ?_
  refine lv_iconst (v := 0) (pc := 17) hx hb dL_at_17 zk_c0 ?_
  exact z_iretC X hr hH dL_at_18
set_option maxHeartbeats 4000000 in
set_option maxRecDepth 100000 in
theorem c_L_at_x (l : Launch) (hlt : l.stackTraces = false) (G : va_G) (cy : Nat → ClassId) (fu sa : Nat) (tq : Nat → Nat) (hq : Nat → Nat) (nq : Nat → Nat) (sq : Nat → Nat) (kq : Nat → Nat) (wq : Nat → Nat) (rq : Nat → Nat) (oq : Nat) (h_alive : Nat → Int32) (h_late : Nat → Int32) (h_hbr : Nat → Int32) (h_rbh : Nat → Int32) (h_waits : Nat → Int32) (h_pers : Nat → Int32) (h_size : Int32) (h_ranks : Int32) (h_lines : Int32) (e_num : Nat → Int32) (e_und : Nat → Int32) (t_plan : Value) (t_draft : Value) (o_out : Nat → Int64) (x1 : Int32) (x2 : Int32) (h : f_X8_atX fu h_size x1 x2 = some ()) (sz : Nat) : vx_Met l yL_at wsLq (zRI 8 1 6 160) (va_Pc [.ref (tq 0), .int x1, .int x2, .ref oq] (zPreX G cy (wS cy tq hq nq sq kq wq rq t_plan t_draft ++ wH cy hq h_alive h_late h_hbr h_rbh h_waits h_pers h_size h_ranks h_lines ++ wE cy nq e_num e_und ++ [(oq, .inl (cy 1, 1, .inr (.inl o_out)))]) sz sa)) (zQ G (wS cy tq hq nq sq kq wq rq t_plan t_draft ++ wH cy hq h_alive h_late h_hbr h_rbh h_waits h_pers h_size h_ranks h_lines ++ wE cy nq e_num e_und ++ [(oq, .inl (cy 1, 1, .inr (.inl o_out)))]) (va_A (wS cy tq hq nq sq kq wq rq t_plan t_draft ++ wH cy hq h_alive h_late h_hbr h_rbh h_waits h_pers h_size h_ranks h_lines ++ wE cy nq e_num e_und ++ [(oq, .inl (cy 1, 1, .inr (.inl o_out)))]) sz) (some (.int 1))) (fun _ _ _ => False) 1 6 (va_A (wS cy tq hq nq sq kq wq rq t_plan t_draft ++ wH cy hq h_alive h_late h_hbr h_rbh h_waits h_pers h_size h_ranks h_lines ++ wE cy nq e_num e_und ++ [(oq, .inl (cy 1, 1, .inr (.inl o_out)))]) sz) := by
  refine vx_ofWH (cc := cL_at) (maxL := 5) (ret := (some .int)) (hh := [(0, 10, 13, 13)]) (by decide) rfl ?_
  intro p e s m args below meth c s₁ B hml hv
  rw [show (headSpec wsLq (zRI 8 1 6 160)).room = zRI 8 1 6 160 from rfl]
  obtain ⟨rfl, ⟨hsz, hP, hK, hD0, hN, hZ⟩, hZu, hZn, hsa, hNw⟩ := hv
  subst hsz
  have htab := vx_table (x := yL_at) B (atoms_spec B.pre _ zL_code)
  have hr : meth.sig.returnType = some .int := B.returns
  have hl := lv_entry ([.ref (tq 0), .int x1, .int x2, .ref oq]) (n := 5) (Nat.le_of_ble_eq_true rfl)
  rw [lg_entry_eq]
  generalize (lg_sl ([.ref (tq 0), .int x1, .int x2, .ref oq]) ++ List.replicate (5 - (lg_sl ([.ref (tq 0), .int x1, .int x2, .ref oq])).length) Slot.unset).toArray = ls at hl ⊢
  have hD := hD0.self (sz := s.heap.size)
  generalize hAe : va_A (wS cy tq hq nq sq kq wq rq t_plan t_draft ++ wH cy hq h_alive h_late h_hbr h_rbh h_waits h_pers h_size h_ranks h_lines ++ wE cy nq e_num e_und ++ [(oq, .inl (cy 1, 1, .inr (.inl o_out)))]) s.heap.size = A at *
  have X : zX p s m [.ref (tq 0), .int x1, .int x2, .ref oq].toArray meth c RL cL_at 5 wsLq G cy A := ⟨⟨B.exec, B.bytes, hml, findClass_of_methodNamed B.named, atoms_spec B.pre⟩, hK, hN, fun q hq => by rw [← hAe]; exact Or.inr hq, B.notSynchronized, hZ⟩
  have hH : zH G A s.heap (wS cy tq hq nq sq kq wq rq t_plan t_draft ++ wH cy hq h_alive h_late h_hbr h_rbh h_waits h_pers h_size h_ranks h_lines ++ wE cy nq e_num e_und ++ [(oq, .inl (cy 1, 1, .inr (.inl o_out)))]) s.heap [] := ⟨hP, hD, va_S.rf⟩
  have hx := X.1.1
  have hb := X.1.2.1
  replace hl : lv_has ls 5 [(0, .ref (tq 0)), (1, .int x1), (2, .int x2), (3, .ref oq)] := hl
  refine lv_aload_n (pc := 0) hx hb dL_at_0 rfl (lv_at hl 3 rfl) ?_
  refine lv_iconst (v := 0) (pc := 1) hx hb dL_at_1 zk_c0 ?_
  refine lv_aload_n (pc := 2) hx hb dL_at_2 rfl (lv_at hl 0 rfl) ?_
  refine lv_iload_n (pc := 3) hx hb dL_at_3 rfl (lv_at hl 1 rfl) ?_
  refine lv_iload_n (pc := 4) hx hb dL_at_4 rfl (lv_at hl 2 rfl) ?_
  refine zcVX (pc := 5) (As := [.int x1, .int x2]) (rest := [.int 0, .ref oq]) (wc := wS cy tq hq nq sq kq wq rq t_plan t_draft ++ wH cy hq h_alive h_late h_hbr h_rbh h_waits h_pers h_size h_ranks h_lines ++ wE cy nq e_num e_und) (wr := [(oq, .inl (cy 1, 1, .inr (.inl o_out)))]) (n := 2) (q0 := 0) X (c_X8_at_x l hlt G cy fu sa tq hq nq sq kq wq rq h_alive h_late h_hbr h_rbh h_waits h_pers h_size h_ranks h_lines e_num e_und t_plan t_draft x1 x2 h _) hsa hZu hZn hNw hH [0, 1, 2, 3, 4, 5, 6, 7, 8, 9, 10] [11] [1, 2, 3, 4, 5, 6, 7, 8, 9, 10, 11, 0] rfl rfl rfl rfl gL_at_X8_at rfl ⟨rfl, rfl⟩ kX8_at ⟨Nat.le_of_ble_eq_true rfl, Nat.le_of_ble_eq_true rfl⟩ rfl rfl rfl rfl hl.1 (Nat.le_of_ble_eq_true rfl) ⟨Nat.le_of_ble_eq_true rfl, Nat.le_of_ble_eq_true rfl⟩ dL_at_5 (fun q ce H locs hH hce hcv hcl => ?_)
  refine zx_catch (name := zxE) X htab rfl (by decide) zL_link hcl hce hcv (z_asS _ _) ?_
  refine lv_astore (i := 4) (pc := 13) hx hb dL_at_13 hl (by decide) rfl (fun ls hl => ?_)
  refine lv_iconst (v := 1) (pc := 15) hx hb dL_at_15 zk_c1 ?_
  exact z_iretC X hr hH dL_at_16
