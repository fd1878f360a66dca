def f_X8_at (fu : Nat) (h_size : Int32) (e_num : Nat → Int32) (x1 : Int32) (x2 : Int32) : Option (Int32) :=
  (f_X3_isHost fu h_size x1).bind fun zr1 =>
  if zr1 = 0 then
    (none)
  else
  (f_X8_isBlock fu x2).bind fun zr3 =>
  if zr3 = 0 then
    (none)
  else
  (f_X8_cell fu x1 x2).bind fun zr5 =>
  (f_X2_value fu e_num zr5).bind fun zr6 =>
  some zr6
def f_X8_atX (fu : Nat) (h_size : Int32) (x1 : Int32) (x2 : Int32) : Option Unit :=
  (f_X3_isHost fu h_size x1).bind fun zr1 =>
  if zr1 = 0 then
    (some ())
  else
  (f_X8_isBlock fu x2).bind fun zr3 =>
  if zr3 = 0 then
    (some ())
  else
  none
set_option maxRecDepth 20000 in
theorem qqX8_at_X3_isHost : GoodIn wsX8q wsX3_isHost := goodIn_r _ [9, 10, 34, 35, 36, 37, 38, 39, 40, 41, 42] (by decide +kernel) (by decide +kernel)
set_option maxRecDepth 20000 in
theorem qqX8_at_X8_isBlock : GoodIn wsX8q wsX8_isBlock := goodIn_r _ [14] (by decide +kernel) (by decide +kernel)
set_option maxRecDepth 20000 in
theorem qqX8_at_X8_cell : GoodIn wsX8q wsX8_cell := goodIn_r _ [17] (by decide +kernel) (by decide +kernel)
set_option maxRecDepth 20000 in
theorem qqX8_at_X2_value : GoodIn wsX8q wsX2_value := goodIn_r _ [22, 23, 24, 13, 25, 43, 44] (by decide +kernel) (by decide +kernel)
set_option maxRecDepth 20000 in
theorem qX8_at_X3_isHost : GoodIn wsX8q (wsV RX8 94 RX3 yX3_isHost wsX3_isHost) := goodIn_app (goodIn_of _ (by decide +kernel)) qqX8_at_X3_isHost
set_option maxRecDepth 20000 in
theorem qX8_at_X8_isBlock : GoodIn wsX8q (va_wsS RX8 98 yX8_isBlock wsX8_isBlock) := goodIn_app (goodIn_of _ (by decide +kernel)) qqX8_at_X8_isBlock
set_option maxRecDepth 20000 in
theorem qX8_at_X8_cell : GoodIn wsX8q (va_wsS RX8 101 yX8_cell wsX8_cell) := goodIn_app (goodIn_of _ (by decide +kernel)) qqX8_at_X8_cell
set_option maxRecDepth 20000 in
theorem qX8_at_X2_value : GoodIn wsX8q (wsV RX8 115 RX2 yX2_value wsX2_value) := goodIn_app (goodIn_of _ (by decide +kernel)) qqX8_at_X2_value
theorem jX8_at_X8 : ∀ w ∈ u_ws RX8 TX8 8, w ∈ wsX8q := by decide +kernel
theorem kX2_value : yX2_value.cls = RX2 ∧ yX2_value.cls ≠ "java/lang/invoke/MethodHandle" ∧ yX2_value.cls ≠ "java/lang/invoke/VarHandle" ∧ (parseMethodDescriptor yX2_value.desc).map (fun d => d.parameters.length) = some 1 := by decide +kernel
set_option maxHeartbeats 4000000 in
set_option maxRecDepth 100000 in
theorem c_X8_at_ok (l : Launch) (G : va_G) (cy : Nat → ClassId) (fu : Nat) (tq : Nat → Nat) (hq : Nat → Nat) (nq : Nat → Nat) (sq : Nat → Nat) (kq : Nat → Nat) (wq : Nat → Nat) (rq : Nat → Nat) (h_alive : Nat → Int32) (h_late : Nat → Int32) (h_hbr : Nat → Int32) (h_rbh : Nat → Int32) (h_waits : Nat → Int32) (h_pers : Nat → Int32) (h_size : Int32) (h_ranks : Int32) (h_lines : Int32) (e_num : Nat → Int32) (e_und : Nat → Int32) (t_plan : Value) (t_draft : Value) (x1 : Int32) (x2 : Int32) (rr : Int32) (h : f_X8_at fu h_size e_num x1 x2 = some rr) : zM l G cy yX8_at wsX8q (zR 2 41) [.ref (tq 0), .int x1, .int x2] (wS cy tq hq nq sq kq wq rq t_plan t_draft ++ wH cy hq h_alive h_late h_hbr h_rbh h_waits h_pers h_size h_ranks h_lines ++ wE cy nq e_num e_und) (wS cy tq hq nq sq kq wq rq t_plan t_draft ++ wH cy hq h_alive h_late h_hbr h_rbh h_waits h_pers h_size h_ranks h_lines ++ wE cy nq e_num e_und) (some (.int rr)) := by
  refine zM.mk (cc := cX8_at) (nL := 3) (ret := (some .int)) (by decide) rfl (Nat.le_of_ble_eq_true rfl) ?_
  intro p e s m below meth c A ls X hr hH hl
  replace X : zX p s m [.ref (tq 0), .int x1, .int x2].toArray meth c RX8 cX8_at 3 wsX8q G cy A := X
  have hx := X.1.1
  have hb := X.1.2.1
  replace hl : lv_has ls 3 [(0, .ref (tq 0)), (1, .int x1), (2, .int x2)] := hl
  dsimp only [f_X8_at] at h
  refine lv_aload_n (pc := 0) hx hb dX8_at_0 rfl (lv_at hl 0 rfl) ?_
  refine z_get (pc := 1) (v := .ref (hq 0)) X jX8_at_X8 hH 0 rfl rfl 0 rfl (List.mem_of_getElem? (i := 3) rfl) rfl dX8_at_1 ?_
  refine lv_iload_n (pc := 4) hx hb dX8_at_4 rfl (lv_at hl 1 rfl) ?_
  obtain ⟨zr1, hzr1, h⟩ := zb h
  refine zcV (pc := 5) (As := [.int x1]) (rest := []) (st1 := [.int zr1]) (ws' := wS cy tq hq nq sq kq wq rq t_plan t_draft ++ wH cy hq h_alive h_late h_hbr h_rbh h_waits h_pers h_size h_ranks h_lines ++ wE cy nq e_num e_und) (wr := [((tq 0), .inr (7, [.ref (hq 0), .ref (nq 0), .ref (sq 0), .ref (kq 0), .ref (wq 0), .ref (rq 0), t_plan, t_draft])), ((nq 0), .inr (1, [.ref (nq 1), .ref (nq 2)])), ((nq 1), .inl (cy 0, 256, .inl e_num)), ((nq 2), .inl (cy 0, 256, .inl e_und))]) (n := 1) (q0 := 0) X (c_X3_isHost l G cy fu hq h_alive h_late h_hbr h_rbh h_waits h_pers h_size h_ranks h_lines x1 zr1 hzr1) hH [1, 2, 3, 4, 5, 6, 7] [0, 8, 9, 10] [0, 4, 5, 6, 7, 8, 9, 10, 1, 2, 3] rfl rfl rfl rfl qX8_at_X3_isHost rfl ⟨rfl, rfl⟩ kX3_isHost ⟨Nat.le_of_ble_eq_true rfl, Nat.le_of_ble_eq_true rfl⟩ rfl rfl rfl rfl rfl hl.1 (Nat.le_of_ble_eq_true rfl) ⟨Nat.le_of_ble_eq_true rfl, Nat.le_of_ble_eq_true rfl⟩ dX8_at_5 (fun H locs hH => ?_)
  refine lv_if_eq (pc := 8) (tgt := 18) hx hb dX8_at_8 rfl (fun zc2 => ?_) (fun zc2 => ?_)
  · have h := zt zc2 h
    cases h
  have h := zf zc2 h
  refine lv_iload_n (pc := 11) hx hb dX8_at_11 rfl (lv_at hl 2 rfl) ?_
  obtain ⟨zr3, hzr3, h⟩ := zb h
  refine zcS (pc := 12) (As := [.int x2]) (rest := []) (st1 := [.int zr3]) (ws' := wS cy tq hq nq sq kq wq rq t_plan t_draft ++ wH cy hq h_alive h_late h_hbr h_rbh h_waits h_pers h_size h_ranks h_lines ++ wE cy nq e_num e_und) (wr := [((tq 0), .inr (7, [.ref (hq 0), .ref (nq 0), .ref (sq 0), .ref (kq 0), .ref (wq 0), .ref (rq 0), t_plan, t_draft])), ((hq 0), .inr (2, [.ref (hq 1), .ref (hq 2), .ref (hq 3), .ref (hq 4), .ref (hq 5), .ref (hq 6), .int h_size, .int h_ranks, .int h_lines])), ((hq 1), .inl (cy 2, 16, .inl h_alive)), ((hq 2), .inl (cy 0, 16, .inl h_late)), ((hq 3), .inl (cy 0, 16, .inl h_hbr)), ((hq 4), .inl (cy 0, 16, .inl h_rbh)), ((hq 5), .inl (cy 0, 256, .inl h_waits)), ((hq 6), .inl (cy 0, 256, .inl h_pers)), ((nq 0), .inr (1, [.ref (nq 1), .ref (nq 2)])), ((nq 1), .inl (cy 0, 256, .inl e_num)), ((nq 2), .inl (cy 0, 256, .inl e_und))]) (n := 1) X (c_X8_isBlock l G cy fu x2 zr3 hzr3) hH [] [0, 1, 2, 3, 4, 5, 6, 7, 8, 9, 10] [0, 1, 2, 3, 4, 5, 6, 7, 8, 9, 10] rfl rfl rfl rfl qX8_at_X8_isBlock rfl ⟨rfl, rfl⟩ kX8_isBlock ⟨Nat.le_of_ble_eq_true rfl, Nat.le_of_ble_eq_true rfl⟩ rfl rfl rfl hl.1 (Nat.le_of_ble_eq_true rfl) ⟨Nat.le_of_ble_eq_true rfl, Nat.le_of_ble_eq_true rfl⟩ dX8_at_12 (fun H locs hH => ?_)
  refine lv_if_ne (pc := 15) (tgt := 28) hx hb dX8_at_15 rfl (fun zc4 => ?_) (fun zc4 => ?_)
  · have h := zf zc4 h
    refine lv_aload_n (pc := 28) hx hb dX8_at_28 rfl (lv_at hl 0 rfl) ?_
    refine z_get (pc := 29) (v := .ref (nq 0)) X jX8_at_X8 hH 0 rfl rfl 1 rfl (List.mem_of_getElem? (i := 4) rfl) rfl dX8_at_29 ?_
    refine lv_iload_n (pc := 32) hx hb dX8_at_32 rfl (lv_at hl 1 rfl) ?_
    refine lv_iload_n (pc := 33) hx hb dX8_at_33 rfl (lv_at hl 2 rfl) ?_
    obtain ⟨zr5, hzr5, h⟩ := zb h
    refine zcS (pc := 34) (As := [.int x1, .int x2]) (rest := [.ref (nq 0)]) (st1 := [.int zr5, .ref (nq 0)]) (ws' := wS cy tq hq nq sq kq wq rq t_plan t_draft ++ wH cy hq h_alive h_late h_hbr h_rbh h_waits h_pers h_size h_ranks h_lines ++ wE cy nq e_num e_und) (wr := [((tq 0), .inr (7, [.ref (hq 0), .ref (nq 0), .ref (sq 0), .ref (kq 0), .ref (wq 0), .ref (rq 0), t_plan, t_draft])), ((hq 0), .inr (2, [.ref (hq 1), .ref (hq 2), .ref (hq 3), .ref (hq 4), .ref (hq 5), .ref (hq 6), .int h_size, .int h_ranks, .int h_lines])), ((hq 1), .inl (cy 2, 16, .inl h_alive)), ((hq 2), .inl (cy 0, 16, .inl h_late)), ((hq 3), .inl (cy 0, 16, .inl h_hbr)), ((hq 4), .inl (cy 0, 16, .inl h_rbh)), ((hq 5), .inl (cy 0, 256, .inl h_waits)), ((hq 6), .inl (cy 0, 256, .inl h_pers)), ((nq 0), .inr (1, [.ref (nq 1), .ref (nq 2)])), ((nq 1), .inl (cy 0, 256, .inl e_num)), ((nq 2), .inl (cy 0, 256, .inl e_und))]) (n := 2) X (c_X8_cell l G cy fu x1 x2 zr5 hzr5) hH [] [0, 1, 2, 3, 4, 5, 6, 7, 8, 9, 10] [0, 1, 2, 3, 4, 5, 6, 7, 8, 9, 10] rfl rfl rfl rfl qX8_at_X8_cell rfl ⟨rfl, rfl⟩ kX8_cell ⟨Nat.le_of_ble_eq_true rfl, Nat.le_of_ble_eq_true rfl⟩ rfl rfl rfl hl.1 (Nat.le_of_ble_eq_true rfl) ⟨Nat.le_of_ble_eq_true rfl, Nat.le_of_ble_eq_true rfl⟩ dX8_at_34 (fun H locs hH => ?_)
    obtain ⟨zr6, hzr6, h⟩ := zb h
    refine zcV (pc := 37) (As := [.int zr5]) (rest := []) (st1 := [.int zr6]) (ws' := wS cy tq hq nq sq kq wq rq t_plan t_draft ++ wH cy hq h_alive h_late h_hbr h_rbh h_waits h_pers h_size h_ranks h_lines ++ wE cy nq e_num e_und) (wr := [((tq 0), .inr (7, [.ref (hq 0), .ref (nq 0), .ref (sq 0), .ref (kq 0), .ref (wq 0), .ref (rq 0), t_plan, t_draft])), ((hq 0), .inr (2, [.ref (hq 1), .ref (hq 2), .ref (hq 3), .ref (hq 4), .ref (hq 5), .ref (hq 6), .int h_size, .int h_ranks, .int h_lines])), ((hq 1), .inl (cy 2, 16, .inl h_alive)), ((hq 2), .inl (cy 0, 16, .inl h_late)), ((hq 3), .inl (cy 0, 16, .inl h_hbr)), ((hq 4), .inl (cy 0, 16, .inl h_rbh)), ((hq 5), .inl (cy 0, 256, .inl h_waits)), ((hq 6), .inl (cy 0, 256, .inl h_pers))]) (n := 1) (q0 := 0) X (c_X2_value l G cy fu nq e_num e_und zr5 zr6 hzr6) hH [8, 9, 10] [0, 1, 2, 3, 4, 5, 6, 7] [0, 1, 2, 3, 4, 5, 6, 7, 8, 9, 10] rfl rfl rfl rfl qX8_at_X2_value rfl ⟨rfl, rfl⟩ kX2_value ⟨Nat.le_of_ble_eq_true rfl, Nat.le_of_ble_eq_true rfl⟩ rfl rfl rfl rfl rfl hl.1 (Nat.le_of_ble_eq_true rfl) ⟨Nat.le_of_ble_eq_true rfl, Nat.le_of_ble_eq_true rfl⟩ dX8_at_37 (fun H locs hH => ?_)
    obtain rfl := Option.some.inj h
    exact z_iret X hr hH dX8_at_40
  have h := zt zc4 h
  cases h
set_option maxHeartbeats 4000000 in
set_option maxRecDepth 100000 in
/-- at, where it throws -/
theorem c_X8_at_x (l : Launch) (hlt : l.stackTraces = false) (G : va_G) (cy : Nat → ClassId) (fu sa : Nat) (tq : Nat → Nat) (hq : Nat → Nat) (nq : Nat → Nat) (sq : Nat → Nat) (kq : Nat → Nat) (wq : Nat → Nat) (rq : Nat → Nat) (h_alive : Nat → Int32) (h_late : Nat → Int32) (h_hbr : Nat → Int32) (h_rbh : Nat → Int32) (h_waits : Nat → Int32) (h_pers : Nat → Int32) (h_size : Int32) (h_ranks : Int32) (h_lines : Int32) (e_num : Nat → Int32) (e_und : Nat → Int32) (t_plan : Value) (t_draft : Value) (x1 : Int32) (x2 : Int32) (h : f_X8_atX fu h_size x1 x2 = some ()) (sz : Nat) : vx_Met l yX8_at wsX8q (zRI 6 1 6 120) (va_Pc [.ref (tq 0), .int x1, .int x2] (zPreX G cy (wS cy tq hq nq sq kq wq rq t_plan t_draft ++ wH cy hq h_alive h_late h_hbr h_rbh h_waits h_pers h_size h_ranks h_lines ++ wE cy nq e_num e_und) sz sa)) (fun _ _ _ _ => False) (zXC G (wS cy tq hq nq sq kq wq rq t_plan t_draft ++ wH cy hq h_alive h_late h_hbr h_rbh h_waits h_pers h_size h_ranks h_lines ++ wE cy nq e_num e_und) (va_A (wS cy tq hq nq sq kq wq rq t_plan t_draft ++ wH cy hq h_alive h_late h_hbr h_rbh h_waits h_pers h_size h_ranks h_lines ++ wE cy nq e_num e_und) sz)) 1 6 (va_A (wS cy tq hq nq sq kq wq rq t_plan t_draft ++ wH cy hq h_alive h_late h_hbr h_rbh h_waits h_pers h_size h_ranks h_lines ++ wE cy nq e_num e_und) sz) := by
  refine vx_ofW (cc := cX8_at) (maxL := 3) (ret := (some .int)) (by decide) rfl ?_
  intro p e s m args below meth c s₁ B hml htab hv
  rw [show (headSpec wsX8q (zRI 6 1 6 120)).room = zRI 6 1 6 120 from rfl]
  obtain ⟨rfl, ⟨hsz, hP, hK, hD0, hN, hZ⟩, hZu, hZn, hsa, hNw⟩ := hv
  subst hsz
  have hl := lv_entry ([.ref (tq 0), .int x1, .int x2]) (n := 3) (Nat.le_of_ble_eq_true rfl)
  rw [lg_entry_eq]
  generalize (lg_sl ([.ref (tq 0), .int x1, .int x2]) ++ List.replicate (3 - (lg_sl ([.ref (tq 0), .int x1, .int x2])).length) Slot.unset).toArray = ls at hl ⊢
  have hD := hD0.self (sz := s.heap.size)
  generalize hAe : va_A (wS cy tq hq nq sq kq wq rq t_plan t_draft ++ wH cy hq h_alive h_late h_hbr h_rbh h_waits h_pers h_size h_ranks h_lines ++ wE cy nq e_num e_und) s.heap.size = A at *
  have X : zX p s m [.ref (tq 0), .int x1, .int x2].toArray meth c RX8 cX8_at 3 wsX8q G cy A := ⟨⟨B.exec, B.bytes, hml, findClass_of_methodNamed B.named, atoms_spec B.pre⟩, hK, hN, fun q hq => by rw [← hAe]; exact Or.inr hq, B.notSynchronized, hZ⟩
  have hH : zH G A s.heap (wS cy tq hq nq sq kq wq rq t_plan t_draft ++ wH cy hq h_alive h_late h_hbr h_rbh h_waits h_pers h_size h_ranks h_lines ++ wE cy nq e_num e_und) s.heap [] := ⟨hP, hD, va_S.rf⟩
  have hx := X.1.1
  have hb := X.1.2.1
  replace hl : lv_has ls 3 [(0, .ref (tq 0)), (1, .int x1), (2, .int x2)] := hl
  dsimp only [f_X8_atX] at h
  refine lv_aload_n (pc := 0) hx hb dX8_at_0 rfl (lv_at hl 0 rfl) ?_
  refine z_get (pc := 1) (v := .ref (hq 0)) X jX8_at_X8 hH 0 rfl rfl 0 rfl (List.mem_of_getElem? (i := 3) rfl) rfl dX8_at_1 ?_
  refine lv_iload_n (pc := 4) hx hb dX8_at_4 rfl (lv_at hl 1 rfl) ?_
  obtain ⟨zr1, hzr1, h⟩ := zb h
  refine zcV (pc := 5) (As := [.int x1]) (rest := []) (st1 := [.int zr1]) (ws' := wS cy tq hq nq sq kq wq rq t_plan t_draft ++ wH cy hq h_alive h_late h_hbr h_rbh h_waits h_pers h_size h_ranks h_lines ++ wE cy nq e_num e_und) (wr := [((tq 0), .inr (7, [.ref (hq 0), .ref (nq 0), .ref (sq 0), .ref (kq 0), .ref (wq 0), .ref (rq 0), t_plan, t_draft])), ((nq 0), .inr (1, [.ref (nq 1), .ref (nq 2)])), ((nq 1), .inl (cy 0, 256, .inl e_num)), ((nq 2), .inl (cy 0, 256, .inl e_und))]) (n := 1) (q0 := 0) X (c_X3_isHost l G cy fu hq h_alive h_late h_hbr h_rbh h_waits h_pers h_size h_ranks h_lines x1 zr1 hzr1) hH [1, 2, 3, 4, 5, 6, 7] [0, 8, 9, 10] [0, 4, 5, 6, 7, 8, 9, 10, 1, 2, 3] rfl rfl rfl rfl qX8_at_X3_isHost rfl ⟨rfl, rfl⟩ kX3_isHost ⟨Nat.le_of_ble_eq_true rfl, Nat.le_of_ble_eq_true rfl⟩ rfl rfl rfl rfl rfl hl.1 (Nat.le_of_ble_eq_true rfl) ⟨Nat.le_of_ble_eq_true rfl, Nat.le_of_ble_eq_true rfl⟩ dX8_at_5 (fun H locs hH => ?_)
  refine lv_if_eq (pc := 8) (tgt := 18) hx hb dX8_at_8 rfl (fun zc2 => ?_) (fun zc2 => ?_)
  · have h := zt zc2 h
    exact zx_throwAt X hlt hsa hZu hZn hNw htab hH hl.1
  have h := zf zc2 h
  refine lv_iload_n (pc := 11) hx hb dX8_at_11 rfl (lv_at hl 2 rfl) ?_
  obtain ⟨zr3, hzr3, h⟩ := zb h
  refine zcS (pc := 12) (As := [.int x2]) (rest := []) (st1 := [.int zr3]) (ws' := wS cy tq hq nq sq kq wq rq t_plan t_draft ++ wH cy hq h_alive h_late h_hbr h_rbh h_waits h_pers h_size h_ranks h_lines ++ wE cy nq e_num e_und) (wr := [((tq 0), .inr (7, [.ref (hq 0), .ref (nq 0), .ref (sq 0), .ref (kq 0), .ref (wq 0), .ref (rq 0), t_plan, t_draft])), ((hq 0), .inr (2, [.ref (hq 1), .ref (hq 2), .ref (hq 3), .ref (hq 4), .ref (hq 5), .ref (hq 6), .int h_size, .int h_ranks, .int h_lines])), ((hq 1), .inl (cy 2, 16, .inl h_alive)), ((hq 2), .inl (cy 0, 16, .inl h_late)), ((hq 3), .inl (cy 0, 16, .inl h_hbr)), ((hq 4), .inl (cy 0, 16, .inl h_rbh)), ((hq 5), .inl (cy 0, 256, .inl h_waits)), ((hq 6), .inl (cy 0, 256, .inl h_pers)), ((nq 0), .inr (1, [.ref (nq 1), .ref (nq 2)])), ((nq 1), .inl (cy 0, 256, .inl e_num)), ((nq 2), .inl (cy 0, 256, .inl e_und))]) (n := 1) X (c_X8_isBlock l G cy fu x2 zr3 hzr3) hH [] [0, 1, 2, 3, 4, 5, 6, 7, 8, 9, 10] [0, 1, 2, 3, 4, 5, 6, 7, 8, 9, 10] rfl rfl rfl rfl qX8_at_X8_isBlock rfl ⟨rfl, rfl⟩ kX8_isBlock ⟨Nat.le_of_ble_eq_true rfl, Nat.le_of_ble_eq_true rfl⟩ rfl rfl rfl hl.1 (Nat.le_of_ble_eq_true rfl) ⟨Nat.le_of_ble_eq_true rfl, Nat.le_of_ble_eq_true rfl⟩ dX8_at_12 (fun H locs hH => ?_)
  refine lv_if_ne (pc := 15) (tgt := 28) hx hb dX8_at_15 rfl (fun zc4 => ?_) (fun zc4 => ?_)
  · have h := zf zc4 h
    cases h
  have h := zt zc4 h
  exact zx_throwAt X hlt hsa hZu hZn hNw htab hH hl.1
