set_option maxHeartbeats 4000000 in
set_option maxRecDepth 100000 in
theorem c_X9_sent (l : Launch) (G : va_G) (cy : Nat → ClassId) (fu : Nat) (mq : Nat → Nat) (m_hosts : Int32) (m_lost : Nat → Int32) (m_late : Nat → Int32) (m_wait : Nat → Int32) (m_per : Nat → Int32) (m_blocks : Nat → Int32) (m_sends : Nat → Int32) (m_many : Int32) (m_made : Nat → Int32) (m_madeMany : Int32) (m_lacking : Int32) (m_thrown : Int32) (m_now : Nat → Int32) (m_ahead : Nat → Int32) (m_then : Nat → Int32) (m_time : Nat → Int32) (m_timeThen : Nat → Int32) (m_isThere : Nat → Int32) (m_comes : Nat → Int32) (x1 : Int32) (x2 : Int32) (rr : Int32 × Int32) (h : f_X9_sent fu m_sends m_many x1 x2 = some rr) : zM l G cy yX9_sent wsX9_sent (zR 1 22) [.ref (mq 0), .int x1, .int x2] (wM cy mq m_hosts m_lost m_late m_wait m_per m_blocks m_sends m_many m_made m_madeMany m_lacking m_thrown m_now m_ahead m_then m_time m_timeThen m_isThere m_comes) (wM cy mq m_hosts m_lost m_late m_wait m_per m_blocks m_sends m_many m_made m_madeMany m_lacking rr.2 m_now m_ahead m_then m_time m_timeThen m_isThere m_comes) (some (.int rr.1)) := by
  refine zM.mk (cc := cX9_sent) (nL := 3) (ret := (some .int)) (by decide) rfl (Nat.le_of_ble_eq_true rfl) ?_
  intro p e s m below meth c A ls X hr hH hl
  replace X : zX p s m [.ref (mq 0), .int x1, .int x2].toArray meth c RX9 cX9_sent 3 wsX9_sent G cy A := X
  have hx := X.1.1
  have hb := X.1.2.1
  replace hl : lv_has ls 3 [(0, .ref (mq 0)), (1, .int x1), (2, .int x2)] := hl
  dsimp only [f_X9_sent] at h
  refine lv_aload_n (pc := 0) hx hb dX9_sent_0 rfl (lv_at hl 0 rfl) ?_
  refine lv_iconst (v := 0) (pc := 1) hx hb dX9_sent_1 zk_c0 ?_
  refine z_put (pc := 2) (v := .int 0) (ws' := wM cy mq m_hosts m_lost m_late m_wait m_per m_blocks m_sends m_many m_made m_madeMany m_lacking 0 m_now m_ahead m_then m_time m_timeThen m_isThere m_comes) X iX9_sent_X9 tyX9 tyX9_ok nmX9 hH 0 rfl rfl 11 rfl (List.mem_of_getElem? (i := 1) rfl) rfl rfl rfl rfl rfl dX9_sent_2 (fun H locs hH => ?_)
  refine lv_iload_n (pc := 5) hx hb dX9_sent_5 rfl (lv_at hl 1 rfl) ?_
  refine lv_iconst (v := 0) (pc := 6) hx hb dX9_sent_6 zk_c0 ?_
  refine lv_aload_n (pc := 7) hx hb dX9_sent_7 rfl (lv_at hl 0 rfl) ?_
  refine z_get (pc := 8) (v := .int m_many) X iX9_sent_X9 hH 0 rfl rfl 7 rfl (List.mem_of_getElem? (i := 2) rfl) rfl dX9_sent_8 ?_
  refine lv_iconst (v := 1) (pc := 11) hx hb dX9_sent_11 zk_c1 ?_
  refine lv_isub (pc := 12) hx hb dX9_sent_12 ?_
  obtain ⟨zr1, hzr1, h⟩ := zb h
  refine zcS (pc := 13) (As := [.int x1, .int 0, .int (m_many - 1)]) (rest := []) (st1 := [.int zr1]) (ws' := wM cy mq m_hosts m_lost m_late m_wait m_per m_blocks m_sends m_many m_made m_madeMany m_lacking 0 m_now m_ahead m_then m_time m_timeThen m_isThere m_comes) (wr := [((mq 0), .inr (8, [.int m_hosts, .ref (mq 1), .ref (mq 2), .ref (mq 3), .ref (mq 4), .ref (mq 5), .ref (mq 6), .int m_many, .ref (mq 7), .int m_madeMany, .int m_lacking, .int 0, .ref (mq 8), .ref (mq 9), .ref (mq 10), .ref (mq 11), .ref (mq 12), .ref (mq 13), .ref (mq 14)])), ((mq 1), .inl (cy 2, 16, .inl m_lost)), ((mq 2), .inl (cy 0, 16, .inl m_late)), ((mq 3), .inl (cy 0, 256, .inl m_wait)), ((mq 4), .inl (cy 0, 256, .inl m_per)), ((mq 5), .inl (cy 0, 256, .inl m_blocks)), ((mq 6), .inl (cy 0, 7200, .inl m_sends)), ((mq 7), .inl (cy 0, 7200, .inl m_made)), ((mq 8), .inl (cy 3, 65536, .inl m_now)), ((mq 9), .inl (cy 3, 65536, .inl m_ahead)), ((mq 10), .inl (cy 0, 256, .inl m_then)), ((mq 11), .inl (cy 0, 16, .inl m_time)), ((mq 12), .inl (cy 0, 16, .inl m_timeThen)), ((mq 13), .inl (cy 2, 256, .inl m_isThere)), ((mq 14), .inl (cy 2, 256, .inl m_comes))]) (n := 3) X (c_X9_in l G cy fu x1 0 (m_many - 1) zr1 hzr1) hH [] [0, 1, 2, 3, 4, 5, 6, 7, 8, 9, 10, 11, 12, 13, 14] [0, 1, 2, 3, 4, 5, 6, 7, 8, 9, 10, 11, 12, 13, 14] rfl rfl rfl rfl gX9_sent_X9_in rfl ⟨rfl, rfl⟩ kX9_in ⟨Nat.le_of_ble_eq_true rfl, Nat.le_of_ble_eq_true rfl⟩ rfl rfl rfl hl.1 (Nat.le_of_ble_eq_true rfl) ⟨Nat.le_of_ble_eq_true rfl, Nat.le_of_ble_eq_true rfl⟩ dX9_sent_13 (fun H locs hH => ?_)
  refine lv_if_eq (pc := 16) (tgt := 42) hx hb dX9_sent_16 rfl (fun zc2 => ?_) (fun zc2 => ?_)
  · have h := zt zc2 h
    refine lv_iconst (v := (-1)) (pc := 42) hx hb dX9_sent_42 zk_cm1 ?_
    obtain rfl := Option.some.inj h
    exact z_iret X hr hH dX9_sent_43
  have h := zf zc2 h
  refine lv_iload_n (pc := 19) hx hb dX9_sent_19 rfl (lv_at hl 2 rfl) ?_
  refine lv_iconst (v := 0) (pc := 20) hx hb dX9_sent_20 zk_c0 ?_
  refine lv_iconst (v := 5) (pc := 21) hx hb dX9_sent_21 zk_c5 ?_
  obtain ⟨zr3, hzr3, h⟩ := zb h
  refine zcS (pc := 22) (As := [.int x2, .int 0, .int 5]) (rest := []) (st1 := [.int zr3]) (ws' := wM cy mq m_hosts m_lost m_late m_wait m_per m_blocks m_sends m_many m_made m_madeMany m_lacking 0 m_now m_ahead m_then m_time m_timeThen m_isThere m_comes) (wr := [((mq 0), .inr (8, [.int m_hosts, .ref (mq 1), .ref (mq 2), .ref (mq 3), .ref (mq 4), .ref (mq 5), .ref (mq 6), .int m_many, .ref (mq 7), .int m_madeMany, .int m_lacking, .int 0, .ref (mq 8), .ref (mq 9), .ref (mq 10), .ref (mq 11), .ref (mq 12), .ref (mq 13), .ref (mq 14)])), ((mq 1), .inl (cy 2, 16, .inl m_lost)), ((mq 2), .inl (cy 0, 16, .inl m_late)), ((mq 3), .inl (cy 0, 256, .inl m_wait)), ((mq 4), .inl (cy 0, 256, .inl m_per)), ((mq 5), .inl (cy 0, 256, .inl m_blocks)), ((mq 6), .inl (cy 0, 7200, .inl m_sends)), ((mq 7), .inl (cy 0, 7200, .inl m_made)), ((mq 8), .inl (cy 3, 65536, .inl m_now)), ((mq 9), .inl (cy 3, 65536, .inl m_ahead)), ((mq 10), .inl (cy 0, 256, .inl m_then)), ((mq 11), .inl (cy 0, 16, .inl m_time)), ((mq 12), .inl (cy 0, 16, .inl m_timeThen)), ((mq 13), .inl (cy 2, 256, .inl m_isThere)), ((mq 14), .inl (cy 2, 256, .inl m_comes))]) (n := 3) X (c_X9_in l G cy fu x2 0 5 zr3 hzr3) hH [] [0, 1, 2, 3, 4, 5, 6, 7, 8, 9, 10, 11, 12, 13, 14] [0, 1, 2, 3, 4, 5, 6, 7, 8, 9, 10, 11, 12, 13, 14] rfl rfl rfl rfl gX9_sent_X9_in rfl ⟨rfl, rfl⟩ kX9_in ⟨Nat.le_of_ble_eq_true rfl, Nat.le_of_ble_eq_true rfl⟩ rfl rfl rfl hl.1 (Nat.le_of_ble_eq_true rfl) ⟨Nat.le_of_ble_eq_true rfl, Nat.le_of_ble_eq_true rfl⟩ dX9_sent_22 (fun H locs hH => ?_)
  refine lv_if_eq (pc := 25) (tgt := 42) hx hb dX9_sent_25 rfl (fun zc4 => ?_) (fun zc4 => ?_)
  · have h := zt zc4 h
    refine lv_iconst (v := (-1)) (pc := 42) hx hb dX9_sent_42 zk_cm1 ?_
    obtain rfl := Option.some.inj h
    exact z_iret X hr hH dX9_sent_43
  have h := zf zc4 h
  refine lv_aload_n (pc := 28) hx hb dX9_sent_28 rfl (lv_at hl 0 rfl) ?_
  refine z_get (pc := 29) (v := .ref (mq 6)) X iX9_sent_X9 hH 0 rfl rfl 6 rfl (List.mem_of_getElem? (i := 3) rfl) rfl dX9_sent_29 ?_
  refine lv_bipush (v := 6) (pc := 32) hx hb dX9_sent_32 zk_b6 ?_
  refine lv_iload_n (pc := 34) hx hb dX9_sent_34 rfl (lv_at hl 1 rfl) ?_
  refine lv_imul (pc := 35) hx hb dX9_sent_35 ?_
  refine lv_iload_n (pc := 36) hx hb dX9_sent_36 rfl (lv_at hl 2 rfl) ?_
  refine lv_iadd (pc := 37) hx hb dX9_sent_37 ?_
  obtain ⟨hin, h⟩ := zg h
  refine z_iald (pc := 38) X hH 6 rfl hin dX9_sent_38 ?_
  refine lv_goto (pc := 39) (tgt := 43) hx hb dX9_sent_39 rfl ?_
  obtain rfl := Option.some.inj h
  exact z_iret X hr hH dX9_sent_43
set_option maxHeartbeats 4000000 in
set_option maxRecDepth 100000 in
theorem w_X9_follow_l11 {p : Program} {l : Launch} {e : Env} {s : State} {m : MethodId} {args : Array Value} {below : List Frame} {meth : Method} {c : Code} {A : Nat → Prop} {Q : State → Prop} (G : va_G) (cy : Nat → ClassId) (fu : Nat) (mq : Nat → Nat) (m_hosts : Int32) (m_lost : Nat → Int32) (m_late : Nat → Int32) (m_wait : Nat → Int32) (m_per : Nat → Int32) (m_blocks : Nat → Int32) (m_sends : Nat → Int32) (m_many : Int32) (m_made : Nat → Int32) (m_madeMany : Int32) (m_lacking : Int32) (m_thrown : Int32) (m_ahead : Nat → Int32) (m_then : Nat → Int32) (m_time : Nat → Int32) (m_timeThen : Nat → Int32) (m_isThere : Nat → Int32) (m_comes : Nat → Int32) (x1 : Int32) (X : zX p s m args meth c RX9 cX9_follow 7 wsX9_follow G cy A) : ∀ (n : Nat) (x2 : Int32) (m_now : Nat → Int32) (rr : (Nat → Int32)) (h : lp (f_X9_follow_l11 fu x1) n (x2, m_now) = some rr) (H : Heap) (locs : List Loc) (ls : Array Slot) (hH : zH G A s.heap (wM cy mq m_hosts m_lost m_late m_wait m_per m_blocks m_sends m_many m_made m_madeMany m_lacking m_thrown m_now m_ahead m_then m_time m_timeThen m_isThere m_comes) H locs) (hl : lv_has ls 7 [(0, .ref (mq 0)), (1, .int x1), (2, .int x2)]) (K0 : ∀ (H : Heap) (locs : List Loc) (ls : Array Slot), zH G A s.heap (wM cy mq m_hosts m_lost m_late m_wait m_per m_blocks m_sends m_many m_made m_madeMany m_lacking m_thrown rr m_ahead m_then m_time m_timeThen m_isThere m_comes) H locs → lv_has ls 7 [(0, .ref (mq 0)), (1, .int x1)] → W p l e (zR 0 0) s m args below meth c H locs 0 0 Q (F0 m 47 ls [])), W p l e (zR 0 0) s m args below meth c H locs 0 0 Q (F0 m 11 ls []) := by
  have hx := X.1.1
  have hb := X.1.2.1
  intro n
  induction n with
  | zero => intro x2 m_now rr h H locs ls hH hl K0; cases h
  | succ n ih =>
    intro x2 m_now rr h H locs ls hH hl K0
    replace h : f_X9_follow_l11 fu x1 (lp (f_X9_follow_l11 fu x1) n) (x2, m_now) = some rr := h
    dsimp only [f_X9_follow_l11] at h
    refine lv_iload_n (pc := 11) hx hb dX9_follow_11 rfl (lv_at hl 2 rfl) ?_
    refine lv_sipush (v := 256) (pc := 12) hx hb dX9_follow_12 zk_s256 ?_
    refine lv_icmp_ge (pc := 15) (tgt := 47) hx hb dX9_follow_15 rfl (fun zc1 => ?_) (fun zc1 => ?_)
    · have h := zt zc1 h
      obtain rfl := Option.some.inj h
      exact K0 _ _ _ hH (lv_sub hl [0, 1] rfl)
    have h := zf zc1 h
    refine lv_aload_n (pc := 18) hx hb dX9_follow_18 rfl (lv_at hl 0 rfl) ?_
    refine z_get (pc := 19) (v := .ref (mq 8)) X iX9_follow_X9 hH 0 rfl rfl 12 rfl (List.mem_of_getElem? (i := 1) rfl) rfl dX9_follow_19 ?_
    refine lv_sipush (v := 256) (pc := 22) hx hb dX9_follow_22 zk_s256 ?_
    refine lv_iload_n (pc := 25) hx hb dX9_follow_25 rfl (lv_at hl 1 rfl) ?_
    refine lv_imul (pc := 26) hx hb dX9_follow_26 ?_
    refine lv_iload_n (pc := 27) hx hb dX9_follow_27 rfl (lv_at hl 2 rfl) ?_
    refine lv_iadd (pc := 28) hx hb dX9_follow_28 ?_
    refine lv_iload_n (pc := 29) hx hb dX9_follow_29 rfl (lv_at hl 1 rfl) ?_
    refine lv_iload_n (pc := 30) hx hb dX9_follow_30 rfl (lv_at hl 2 rfl) ?_
    refine lv_icmp_ne (pc := 31) (tgt := 38) hx hb dX9_follow_31 rfl (fun zc2 => ?_) (fun zc2 => ?_)
    · have h := zf zc2 h
      refine lv_iconst (v := 0) (pc := 38) hx hb dX9_follow_38 zk_c0 ?_
      refine lv_i2b (pc := 39) hx hb dX9_follow_39 rfl ?_
      obtain ⟨hin, h⟩ := zg h
      refine z_bast (pc := 40) (ws' := wM cy mq m_hosts m_lost m_late m_wait m_per m_blocks m_sends m_many m_made m_madeMany m_lacking m_thrown (upd m_now (((256 * x1) + x2)).toNatClampNeg (vp_nar .byte ((0 : Int32).toInt8.toInt32))) m_ahead m_then m_time m_timeThen m_isThere m_comes) X hH 8 rfl hin rfl dX9_follow_40 (fun H locs hH => ?_)
      refine lv_iinc (pc := 41) (v := (x2 + 1)) (lv' := [(2, .int (x2 + 1)), (0, .ref (mq 0)), (1, .int x1)]) hx hb dX9_follow_41 hl (k := 2) rfl (by rw [zk_c1]) (by decide) rfl (fun ls hl => ?_)
      refine lv_goto (pc := 44) (tgt := 11) hx hb dX9_follow_44 rfl ?_
      exact ih (x2 + 1) (upd m_now (((256 * x1) + x2)).toNatClampNeg (vp_nar .byte ((0 : Int32).toInt8.toInt32))) rr h _ _ _ hH (lv_sub hl [1, 2, 0] rfl) K0
    have h := zt zc2 h
    refine lv_iconst (v := 1) (pc := 34) hx hb dX9_follow_34 zk_c1 ?_
    refine lv_goto (pc := 35) (tgt := 39) hx hb dX9_follow_35 rfl ?_
    refine lv_i2b (pc := 39) hx hb dX9_follow_39 rfl ?_
    obtain ⟨hin, h⟩ := zg h
    refine z_bast (pc := 40) (ws' := wM cy mq m_hosts m_lost m_late m_wait m_per m_blocks m_sends m_many m_made m_madeMany m_lacking m_thrown (upd m_now (((256 * x1) + x2)).toNatClampNeg (vp_nar .byte ((1 : Int32).toInt8.toInt32))) m_ahead m_then m_time m_timeThen m_isThere m_comes) X hH 8 rfl hin rfl dX9_follow_40 (fun H locs hH => ?_)
    refine lv_iinc (pc := 41) (v := (x2 + 1)) (lv' := [(2, .int (x2 + 1)), (0, .ref (mq 0)), (1, .int x1)]) hx hb dX9_follow_41 hl (k := 2) rfl (by rw [zk_c1]) (by decide) rfl (fun ls hl => ?_)
    refine lv_goto (pc := 44) (tgt := 11) hx hb dX9_follow_44 rfl ?_
    exact ih (x2 + 1) (upd m_now (((256 * x1) + x2)).toNatClampNeg (vp_nar .byte ((1 : Int32).toInt8.toInt32))) rr h _ _ _ hH (lv_sub hl [1, 2, 0] rfl) K0
set_option maxHeartbeats 4000000 in
set_option maxRecDepth 100000 in
theorem w_X9_follow_l2 {p : Program} {l : Launch} {e : Env} {s : State} {m : MethodId} {args : Array Value} {below : List Frame} {meth : Method} {c : Code} {A : Nat → Prop} {Q : State → Prop} (G : va_G) (cy : Nat → ClassId) (fu : Nat) (mq : Nat → Nat) (m_hosts : Int32) (m_lost : Nat → Int32) (m_late : Nat → Int32) (m_wait : Nat → Int32) (m_per : Nat → Int32) (m_blocks : Nat → Int32) (m_sends : Nat → Int32) (m_many : Int32) (m_made : Nat → Int32) (m_madeMany : Int32) (m_lacking : Int32) (m_thrown : Int32) (m_ahead : Nat → Int32) (m_then : Nat → Int32) (m_time : Nat → Int32) (m_timeThen : Nat → Int32) (m_isThere : Nat → Int32) (m_comes : Nat → Int32) (X : zX p s m args meth c RX9 cX9_follow 7 wsX9_follow G cy A) : ∀ (n : Nat) (x1 : Int32) (m_now : Nat → Int32) (rr : (Nat → Int32)) (h : lp (f_X9_follow_l2 fu) n (x1, m_now) = some rr) (H : Heap) (locs : List Loc) (ls : Array Slot) (hH : zH G A s.heap (wM cy mq m_hosts m_lost m_late m_wait m_per m_blocks m_sends m_many m_made m_madeMany m_lacking m_thrown m_now m_ahead m_then m_time m_timeThen m_isThere m_comes) H locs) (hl : lv_has ls 7 [(0, .ref (mq 0)), (1, .int x1)]) (K0 : ∀ (H : Heap) (locs : List Loc) (ls : Array Slot), zH G A s.heap (wM cy mq m_hosts m_lost m_late m_wait m_per m_blocks m_sends m_many m_made m_madeMany m_lacking m_thrown rr m_ahead m_then m_time m_timeThen m_isThere m_comes) H locs → lv_has ls 7 [(0, .ref (mq 0))] → W p l e (zR 0 0) s m args below meth c H locs 0 0 Q (F0 m 53 ls [])), W p l e (zR 0 0) s m args below meth c H locs 0 0 Q (F0 m 2 ls []) := by
  have hx := X.1.1
  have hb := X.1.2.1
  intro n
  induction n with
  | zero => intro x1 m_now rr h H locs ls hH hl K0; cases h
  | succ n ih =>
    intro x1 m_now rr h H locs ls hH hl K0
    replace h : f_X9_follow_l2 fu (lp (f_X9_follow_l2 fu) n) (x1, m_now) = some rr := h
    dsimp only [f_X9_follow_l2] at h
    refine lv_iload_n (pc := 2) hx hb dX9_follow_2 rfl (lv_at hl 1 rfl) ?_
    refine lv_sipush (v := 256) (pc := 3) hx hb dX9_follow_3 zk_s256 ?_
    refine lv_icmp_ge (pc := 6) (tgt := 53) hx hb dX9_follow_6 rfl (fun zc1 => ?_) (fun zc1 => ?_)
    · have h := zt zc1 h
      obtain rfl := Option.some.inj h
      exact K0 _ _ _ hH (lv_sub hl [0] rfl)
    have h := zf zc1 h
    refine lv_iconst (v := 0) (pc := 9) hx hb dX9_follow_9 zk_c0 ?_
    refine lv_istore_n (pc := 10) (lv' := [(2, .int 0), (0, .ref (mq 0)), (1, .int x1)]) hx hb dX9_follow_10 rfl hl (by decide) rfl (fun ls hl => ?_)
    obtain ⟨zr2, hzr2, h⟩ := zb h
    refine w_X9_follow_l11 G cy fu mq m_hosts m_lost m_late m_wait m_per m_blocks m_sends m_many m_made m_madeMany m_lacking m_thrown m_ahead m_then m_time m_timeThen m_isThere m_comes x1 X fu 0 m_now zr2 hzr2 _ _ _ hH (lv_sub hl [1, 2, 0] rfl) (fun H locs ls hH hl => ?_)
    refine lv_iinc (pc := 47) (v := (x1 + 1)) (lv' := [(1, .int (x1 + 1)), (0, .ref (mq 0))]) hx hb dX9_follow_47 hl (k := 1) rfl (by rw [zk_c1]) (by decide) rfl (fun ls hl => ?_)
    refine lv_goto (pc := 50) (tgt := 2) hx hb dX9_follow_50 rfl ?_
    exact ih (x1 + 1) zr2 rr h _ _ _ hH (lv_sub hl [1, 0] rfl) K0
set_option maxHeartbeats 4000000 in
set_option maxRecDepth 100000 in
theorem w_X9_follow_l75 {p : Program} {l : Launch} {e : Env} {s : State} {m : MethodId} {args : Array Value} {below : List Frame} {meth : Method} {c : Code} {A : Nat → Prop} {Q : State → Prop} (G : va_G) (cy : Nat → ClassId) (fu : Nat) (mq : Nat → Nat) (m_hosts : Int32) (m_lost : Nat → Int32) (m_late : Nat → Int32) (m_wait : Nat → Int32) (m_per : Nat → Int32) (m_blocks : Nat → Int32) (m_sends : Nat → Int32) (m_many : Int32) (m_made : Nat → Int32) (m_madeMany : Int32) (m_lacking : Int32) (m_thrown : Int32) (m_now : Nat → Int32) (m_then : Nat → Int32) (m_time : Nat → Int32) (m_timeThen : Nat → Int32) (m_isThere : Nat → Int32) (m_comes : Nat → Int32) (x1 : Int32) (x2 : Int32) (X : zX p s m args meth c RX9 cX9_follow 7 wsX9_follow G cy A) : ∀ (n : Nat) (x3 : Int32) (m_ahead : Nat → Int32) (rr : (Nat → Int32)) (h : lp (f_X9_follow_l75 fu m_now) n (x3, m_ahead) = some rr) (H : Heap) (locs : List Loc) (ls : Array Slot) (hH : zH G A s.heap (wM cy mq m_hosts m_lost m_late m_wait m_per m_blocks m_sends m_many m_made m_madeMany m_lacking m_thrown m_now m_ahead m_then m_time m_timeThen m_isThere m_comes) H locs) (hl : lv_has ls 7 [(0, .ref (mq 0)), (1, .int x1), (2, .int x2), (3, .int x3)]) (K0 : ∀ (H : Heap) (locs : List Loc) (ls : Array Slot), zH G A s.heap (wM cy mq m_hosts m_lost m_late m_wait m_per m_blocks m_sends m_many m_made m_madeMany m_lacking m_thrown m_now rr m_then m_time m_timeThen m_isThere m_comes) H locs → lv_has ls 7 [(0, .ref (mq 0)), (1, .int x1), (2, .int x2)] → W p l e (zR 0 0) s m args below meth c H locs 0 0 Q (F0 m 99 ls [])), W p l e (zR 0 0) s m args below meth c H locs 0 0 Q (F0 m 75 ls []) := by
  have hx := X.1.1
  have hb := X.1.2.1
  intro n
  induction n with
  | zero => intro x3 m_ahead rr h H locs ls hH hl K0; cases h
  | succ n ih =>
    intro x3 m_ahead rr h H locs ls hH hl K0
    replace h : f_X9_follow_l75 fu m_now (lp (f_X9_follow_l75 fu m_now) n) (x3, m_ahead) = some rr := h
    dsimp only [f_X9_follow_l75] at h
    refine lv_iload_n (pc := 75) hx hb dX9_follow_75 rfl (lv_at hl 3 rfl) ?_
    refine lv_ldc (pc := 76) (v := 65536) hx hb X.1.2.2.2.1 (X.1.2.2.2.2 _ (List.mem_of_getElem? (i := 4) rfl)) dX9_follow_76 ?_
    refine lv_icmp_ge (pc := 78) (tgt := 99) hx hb dX9_follow_78 rfl (fun zc1 => ?_) (fun zc1 => ?_)
    · have h := zt zc1 h
      obtain rfl := Option.some.inj h
      exact K0 _ _ _ hH (lv_sub hl [0, 1, 2] rfl)
    have h := zf zc1 h
    refine lv_aload_n (pc := 81) hx hb dX9_follow_81 rfl (lv_at hl 0 rfl) ?_
    refine z_get (pc := 82) (v := .ref (mq 9)) X iX9_follow_X9 hH 0 rfl rfl 13 rfl (List.mem_of_getElem? (i := 5) rfl) rfl dX9_follow_82 ?_
    refine lv_iload_n (pc := 85) hx hb dX9_follow_85 rfl (lv_at hl 3 rfl) ?_
    refine lv_aload_n (pc := 86) hx hb dX9_follow_86 rfl (lv_at hl 0 rfl) ?_
    refine z_get (pc := 87) (v := .ref (mq 8)) X iX9_follow_X9 hH 0 rfl rfl 12 rfl (List.mem_of_getElem? (i := 1) rfl) rfl dX9_follow_87 ?_
    refine lv_iload_n (pc := 90) hx hb dX9_follow_90 rfl (lv_at hl 3 rfl) ?_
    obtain ⟨hin, h⟩ := zg h
    refine z_bald (pc := 91) X hH 8 rfl hin dX9_follow_91 ?_
    obtain ⟨hin, h⟩ := zg h
    refine z_bast (pc := 92) (ws' := wM cy mq m_hosts m_lost m_late m_wait m_per m_blocks m_sends m_many m_made m_madeMany m_lacking m_thrown m_now (upd m_ahead (x3).toNatClampNeg (vp_nar .byte (m_now (x3).toNatClampNeg))) m_then m_time m_timeThen m_isThere m_comes) X hH 9 rfl hin rfl dX9_follow_92 (fun H locs hH => ?_)
    refine lv_iinc (pc := 93) (v := (x3 + 1)) (lv' := [(3, .int (x3 + 1)), (0, .ref (mq 0)), (1, .int x1), (2, .int x2)]) hx hb dX9_follow_93 hl (k := 3) rfl (by rw [zk_c1]) (by decide) rfl (fun ls hl => ?_)
    refine lv_goto (pc := 96) (tgt := 75) hx hb dX9_follow_96 rfl ?_
    exact ih (x3 + 1) (upd m_ahead (x3).toNatClampNeg (vp_nar .byte (m_now (x3).toNatClampNeg))) rr h _ _ _ hH (lv_sub hl [1, 2, 3, 0] rfl) K0
set_option maxHeartbeats 4000000 in
set_option maxRecDepth 100000 in
theorem w_X9_follow_l186 {p : Program} {l : Launch} {e : Env} {s : State} {m : MethodId} {args : Array Value} {below : List Frame} {meth : Method} {c : Code} {A : Nat → Prop} {Q : State → Prop} (G : va_G) (cy : Nat → ClassId) (fu : Nat) (mq : Nat → Nat) (m_hosts : Int32) (m_lost : Nat → Int32) (m_late : Nat → Int32) (m_wait : Nat → Int32) (m_per : Nat → Int32) (m_blocks : Nat → Int32) (m_sends : Nat → Int32) (m_many : Int32) (m_made : Nat → Int32) (m_madeMany : Int32) (m_lacking : Int32) (m_thrown : Int32) (m_ahead : Nat → Int32) (m_then : Nat → Int32) (m_time : Nat → Int32) (m_timeThen : Nat → Int32) (m_isThere : Nat → Int32) (m_comes : Nat → Int32) (x1 : Int32) (x2 : Int32) (x3 : Int32) (x4 : Int32) (X : zX p s m args meth c RX9 cX9_follow 7 wsX9_follow G cy A) : ∀ (n : Nat) (x5 : Int32) (m_now : Nat → Int32) (rr : (Nat → Int32)) (h : lp (f_X9_follow_l186 fu m_sends m_ahead x1 x3 x4) n (x5, m_now) = some rr) (H : Heap) (locs : List Loc) (ls : Array Slot) (hH : zH G A s.heap (wM cy mq m_hosts m_lost m_late m_wait m_per m_blocks m_sends m_many m_made m_madeMany m_lacking m_thrown m_now m_ahead m_then m_time m_timeThen m_isThere m_comes) H locs) (hl : lv_has ls 7 [(0, .ref (mq 0)), (1, .int x1), (2, .int x2), (3, .int x3), (4, .int x4), (5, .int x5)]) (K0 : ∀ (H : Heap) (locs : List Loc) (ls : Array Slot), zH G A s.heap (wM cy mq m_hosts m_lost m_late m_wait m_per m_blocks m_sends m_many m_made m_madeMany m_lacking m_thrown rr m_ahead m_then m_time m_timeThen m_isThere m_comes) H locs → lv_has ls 7 [(0, .ref (mq 0)), (1, .int x1), (2, .int x2)] → W p l e (zR 0 0) s m args below meth c H locs 0 0 Q (F0 m 264 ls [])), W p l e (zR 0 0) s m args below meth c H locs 0 0 Q (F0 m 186 ls []) := by
  have hx := X.1.1
  have hb := X.1.2.1
  intro n
  induction n with
  | zero => intro x5 m_now rr h H locs ls hH hl K0; cases h
  | succ n ih =>
    intro x5 m_now rr h H locs ls hH hl K0
    replace h : f_X9_follow_l186 fu m_sends m_ahead x1 x3 x4 (lp (f_X9_follow_l186 fu m_sends m_ahead x1 x3 x4) n) (x5, m_now) = some rr := h
    dsimp only [f_X9_follow_l186] at h
    refine lv_iload (pc := 186) hx hb dX9_follow_186 (lv_at hl 5 rfl) ?_
    refine lv_sipush (v := 256) (pc := 188) hx hb dX9_follow_188 zk_s256 ?_
    refine lv_icmp_ge (pc := 191) (tgt := 264) hx hb dX9_follow_191 rfl (fun zc1 => ?_) (fun zc1 => ?_)
    · have h := zt zc1 h
      obtain rfl := Option.some.inj h
      exact K0 _ _ _ hH (lv_sub hl [0, 1, 2] rfl)
    have h := zf zc1 h
    refine lv_aload_n (pc := 194) hx hb dX9_follow_194 rfl (lv_at hl 0 rfl) ?_
    refine z_get (pc := 195) (v := .ref (mq 9)) X iX9_follow_X9 hH 0 rfl rfl 13 rfl (List.mem_of_getElem? (i := 5) rfl) rfl dX9_follow_195 ?_
    refine lv_iload_n (pc := 198) hx hb dX9_follow_198 rfl (lv_at hl 3 rfl) ?_
    refine lv_iload (pc := 199) hx hb dX9_follow_199 (lv_at hl 5 rfl) ?_
    refine lv_iadd (pc := 201) hx hb dX9_follow_201 ?_
    obtain ⟨hin, h⟩ := zg h
    refine z_bald (pc := 202) X hH 9 rfl hin dX9_follow_202 ?_
    refine lv_aload_n (pc := 203) hx hb dX9_follow_203 rfl (lv_at hl 0 rfl) ?_
    refine z_get (pc := 204) (v := .ref (mq 6)) X iX9_follow_X9 hH 0 rfl rfl 6 rfl (List.mem_of_getElem? (i := 3) rfl) rfl dX9_follow_204 ?_
    refine lv_bipush (v := 6) (pc := 207) hx hb dX9_follow_207 zk_b6 ?_
    refine lv_iload_n (pc := 209) hx hb dX9_follow_209 rfl (lv_at hl 1 rfl) ?_
    refine lv_imul (pc := 210) hx hb dX9_follow_210 ?_
    refine lv_iconst (v := 5) (pc := 211) hx hb dX9_follow_211 zk_c5 ?_
    refine lv_iadd (pc := 212) hx hb dX9_follow_212 ?_
    obtain ⟨hin, h⟩ := zg h
    refine z_iald (pc := 213) X hH 6 rfl hin dX9_follow_213 ?_
    refine lv_iconst (v := 1) (pc := 214) hx hb dX9_follow_214 zk_c1 ?_
    refine lv_icmp_ne (pc := 215) (tgt := 231) hx hb dX9_follow_215 rfl (fun zc2 => ?_) (fun zc2 => ?_)
    · have h := zf zc2 h
      refine lv_iconst (v := 0) (pc := 231) hx hb dX9_follow_231 zk_c0 ?_
      refine lv_iadd (pc := 232) hx hb dX9_follow_232 ?_
      refine lv_topi (fun za3 eza3 => ?_)
      have h := vn_s h za3 eza3
      refine lv_istore (pc := 233) (lv' := [(6, .int za3), (0, .ref (mq 0)), (1, .int x1), (2, .int x2), (3, .int x3), (4, .int x4), (5, .int x5)]) hx hb dX9_follow_233 hl (by decide) rfl (fun ls hl => ?_)
      refine lv_aload_n (pc := 235) hx hb dX9_follow_235 rfl (lv_at hl 1 rfl) ?_
      refine z_get (pc := 236) (v := .ref (mq 8)) X iX9_follow_X9 hH 0 rfl rfl 12 rfl (List.mem_of_getElem? (i := 1) rfl) rfl dX9_follow_236 ?_
      refine lv_iload (pc := 239) hx hb dX9_follow_239 (lv_at hl 5 rfl) ?_
      refine lv_iload (pc := 241) hx hb dX9_follow_241 (lv_at hl 6 rfl) ?_
      refine lv_iadd (pc := 243) hx hb dX9_follow_243 ?_
      refine lv_iload (pc := 244) hx hb dX9_follow_244 (lv_at hl 0 rfl) ?_
      refine lv_iconst (v := 2) (pc := 246) hx hb dX9_follow_246 zk_c2 ?_
      refine lv_icmp_le (pc := 247) (tgt := 254) hx hb dX9_follow_247 rfl (fun zc4 => ?_) (fun zc4 => ?_)
      · have h := zt zc4 h
        refine lv_iload (pc := 254) hx hb dX9_follow_254 (lv_at hl 0 rfl) ?_
        refine lv_i2b (pc := 256) hx hb dX9_follow_256 rfl ?_
        obtain ⟨hin, h⟩ := zg h
        refine z_bast (pc := 257) (ws' := wM cy mq m_hosts m_lost m_late m_wait m_per m_blocks m_sends m_many m_made m_madeMany m_lacking m_thrown (upd m_now ((x4 + x5)).toNatClampNeg (vp_nar .byte (za3.toInt8.toInt32))) m_ahead m_then m_time m_timeThen m_isThere m_comes) X hH 8 rfl hin rfl dX9_follow_257 (fun H locs hH => ?_)
        refine lv_iinc (pc := 258) (v := (x5 + 1)) (lv' := [(5, .int (x5 + 1)), (6, .int za3), (0, .ref (mq 0)), (1, .int x1), (2, .int x2), (3, .int x3), (4, .int x4)]) hx hb dX9_follow_258 hl (k := 6) rfl (by rw [zk_c1]) (by decide) rfl (fun ls hl => ?_)
        refine lv_goto (pc := 261) (tgt := 186) hx hb dX9_follow_261 rfl ?_
        exact ih (x5 + 1) (upd m_now ((x4 + x5)).toNatClampNeg (vp_nar .byte (za3.toInt8.toInt32))) rr h _ _ _ hH (lv_sub hl [2, 3, 4, 5, 6, 0] rfl) K0
      have h := zf zc4 h
      refine lv_iconst (v := 2) (pc := 250) hx hb dX9_follow_250 zk_c2 ?_
      refine lv_goto (pc := 251) (tgt := 256) hx hb dX9_follow_251 rfl ?_
      refine lv_i2b (pc := 256) hx hb dX9_follow_256 rfl ?_
      obtain ⟨hin, h⟩ := zg h
      refine z_bast (pc := 257) (ws' := wM cy mq m_hosts m_lost m_late m_wait m_per m_blocks m_sends m_many m_made m_madeMany m_lacking m_thrown (upd m_now ((x4 + x5)).toNatClampNeg (vp_nar .byte ((2 : Int32).toInt8.toInt32))) m_ahead m_then m_time m_timeThen m_isThere m_comes) X hH 8 rfl hin rfl dX9_follow_257 (fun H locs hH => ?_)
      refine lv_iinc (pc := 258) (v := (x5 + 1)) (lv' := [(5, .int (x5 + 1)), (6, .int za3), (0, .ref (mq 0)), (1, .int x1), (2, .int x2), (3, .int x3), (4, .int x4)]) hx hb dX9_follow_258 hl (k := 6) rfl (by rw [zk_c1]) (by decide) rfl (fun ls hl => ?_)
      refine lv_goto (pc := 261) (tgt := 186) hx hb dX9_follow_261 rfl ?_
      exact ih (x5 + 1) (upd m_now ((x4 + x5)).toNatClampNeg (vp_nar .byte ((2 : Int32).toInt8.toInt32))) rr h _ _ _ hH (lv_sub hl [2, 3, 4, 5, 6, 0] rfl) K0
    have h := zt zc2 h
    refine lv_aload_n (pc := 218) hx hb dX9_follow_218 rfl (lv_at hl 0 rfl) ?_
    refine z_get (pc := 219) (v := .ref (mq 9)) X iX9_follow_X9 hH 0 rfl rfl 13 rfl (List.mem_of_getElem? (i := 5) rfl) rfl dX9_follow_219 ?_
    refine lv_iload (pc := 222) hx hb dX9_follow_222 (lv_at hl 4 rfl) ?_
    refine lv_iload (pc := 224) hx hb dX9_follow_224 (lv_at hl 5 rfl) ?_
    refine lv_iadd (pc := 226) hx hb dX9_follow_226 ?_
    obtain ⟨hin, h⟩ := zg h
    refine z_bald (pc := 227) X hH 9 rfl hin dX9_follow_227 ?_
    refine lv_goto (pc := 228) (tgt := 232) hx hb dX9_follow_228 rfl ?_
    refine lv_iadd (pc := 232) hx hb dX9_follow_232 ?_
    refine lv_topi (fun za5 eza5 => ?_)
    have h := vn_s h za5 eza5
    refine lv_istore (pc := 233) (lv' := [(6, .int za5), (0, .ref (mq 0)), (1, .int x1), (2, .int x2), (3, .int x3), (4, .int x4), (5, .int x5)]) hx hb dX9_follow_233 hl (by decide) rfl (fun ls hl => ?_)
    refine lv_aload_n (pc := 235) hx hb dX9_follow_235 rfl (lv_at hl 1 rfl) ?_
    refine z_get (pc := 236) (v := .ref (mq 8)) X iX9_follow_X9 hH 0 rfl rfl 12 rfl (List.mem_of_getElem? (i := 1) rfl) rfl dX9_follow_236 ?_
    refine lv_iload (pc := 239) hx hb dX9_follow_239 (lv_at hl 5 rfl) ?_
    refine lv_iload (pc := 241) hx hb dX9_follow_241 (lv_at hl 6 rfl) ?_
    refine lv_iadd (pc := 243) hx hb dX9_follow_243 ?_
    refine lv_iload (pc := 244) hx hb dX9_follow_244 (lv_at hl 0 rfl) ?_
    refine lv_iconst (v := 2) (pc := 246) hx hb dX9_follow_246 zk_c2 ?_
    refine lv_icmp_le (pc := 247) (tgt := 254) hx hb dX9_follow_247 rfl (fun zc6 => ?_) (fun zc6 => ?_)
    · have h := zt zc6 h
      refine lv_iload (pc := 254) hx hb dX9_follow_254 (lv_at hl 0 rfl) ?_
      refine lv_i2b (pc := 256) hx hb dX9_follow_256 rfl ?_
      obtain ⟨hin, h⟩ := zg h
      refine z_bast (pc := 257) (ws' := wM cy mq m_hosts m_lost m_late m_wait m_per m_blocks m_sends m_many m_made m_madeMany m_lacking m_thrown (upd m_now ((x4 + x5)).toNatClampNeg (vp_nar .byte (za5.toInt8.toInt32))) m_ahead m_then m_time m_timeThen m_isThere m_comes) X hH 8 rfl hin rfl dX9_follow_257 (fun H locs hH => ?_)
      refine lv_iinc (pc := 258) (v := (x5 + 1)) (lv' := [(5, .int (x5 + 1)), (6, .int za5), (0, .ref (mq 0)), (1, .int x1), (2, .int x2), (3, .int x3), (4, .int x4)]) hx hb dX9_follow_258 hl (k := 6) rfl (by rw [zk_c1]) (by decide) rfl (fun ls hl => ?_)
      refine lv_goto (pc := 261) (tgt := 186) hx hb dX9_follow_261 rfl ?_
      exact ih (x5 + 1) (upd m_now ((x4 + x5)).toNatClampNeg (vp_nar .byte (za5.toInt8.toInt32))) rr h _ _ _ hH (lv_sub hl [2, 3, 4, 5, 6, 0] rfl) K0
    have h := zf zc6 h
    refine lv_iconst (v := 2) (pc := 250) hx hb dX9_follow_250 zk_c2 ?_
    refine lv_goto (pc := 251) (tgt := 256) hx hb dX9_follow_251 rfl ?_
    refine lv_i2b (pc := 256) hx hb dX9_follow_256 rfl ?_
    obtain ⟨hin, h⟩ := zg h
    refine z_bast (pc := 257) (ws' := wM cy mq m_hosts m_lost m_late m_wait m_per m_blocks m_sends m_many m_made m_madeMany m_lacking m_thrown (upd m_now ((x4 + x5)).toNatClampNeg (vp_nar .byte ((2 : Int32).toInt8.toInt32))) m_ahead m_then m_time m_timeThen m_isThere m_comes) X hH 8 rfl hin rfl dX9_follow_257 (fun H locs hH => ?_)
    refine lv_iinc (pc := 258) (v := (x5 + 1)) (lv' := [(5, .int (x5 + 1)), (6, .int za5), (0, .ref (mq 0)), (1, .int x1), (2, .int x2), (3, .int x3), (4, .int x4)]) hx hb dX9_follow_258 hl (k := 6) rfl (by rw [zk_c1]) (by decide) rfl (fun ls hl => ?_)
    refine lv_goto (pc := 261) (tgt := 186) hx hb dX9_follow_261 rfl ?_
    exact ih (x5 + 1) (upd m_now ((x4 + x5)).toNatClampNeg (vp_nar .byte ((2 : Int32).toInt8.toInt32))) rr h _ _ _ hH (lv_sub hl [2, 3, 4, 5, 6, 0] rfl) K0
set_option maxHeartbeats 4000000 in
set_option maxRecDepth 100000 in
theorem w_X9_follow_l99 {p : Program} {l : Launch} {e : Env} {s : State} {m : MethodId} {args : Array Value} {below : List Frame} {meth : Method} {c : Code} {A : Nat → Prop} {Q : State → Prop} (G : va_G) (cy : Nat → ClassId) (fu : Nat) (mq : Nat → Nat) (m_hosts : Int32) (m_lost : Nat → Int32) (m_late : Nat → Int32) (m_wait : Nat → Int32) (m_per : Nat → Int32) (m_blocks : Nat → Int32) (m_sends : Nat → Int32) (m_many : Int32) (m_made : Nat → Int32) (m_madeMany : Int32) (m_lacking : Int32) (m_thrown : Int32) (m_ahead : Nat → Int32) (m_then : Nat → Int32) (m_time : Nat → Int32) (m_timeThen : Nat → Int32) (m_isThere : Nat → Int32) (m_comes : Nat → Int32) (x2 : Int32) (X : zX p s m args meth c RX9 cX9_follow 7 wsX9_follow G cy A) : ∀ (n : Nat) (x1 : Int32) (m_now : Nat → Int32) (rr : Int32 × (Nat → Int32)) (h : lp (f_X9_follow_l99 fu m_sends m_many m_ahead x2) n (x1, m_now) = some rr) (H : Heap) (locs : List Loc) (ls : Array Slot) (hH : zH G A s.heap (wM cy mq m_hosts m_lost m_late m_wait m_per m_blocks m_sends m_many m_made m_madeMany m_lacking m_thrown m_now m_ahead m_then m_time m_timeThen m_isThere m_comes) H locs) (hl : lv_has ls 7 [(0, .ref (mq 0)), (1, .int x1), (2, .int x2)]) (K0 : ∀ (H : Heap) (locs : List Loc) (ls : Array Slot), zH G A s.heap (wM cy mq m_hosts m_lost m_late m_wait m_per m_blocks m_sends m_many m_made m_madeMany m_lacking m_thrown rr.2 m_ahead m_then m_time m_timeThen m_isThere m_comes) H locs → lv_has ls 7 [(0, .ref (mq 0)), (1, .int rr.1)] → W p l e (zR 0 0) s m args below meth c H locs 0 0 Q (F0 m 270 ls [])), W p l e (zR 0 0) s m args below meth c H locs 0 0 Q (F0 m 99 ls []) := by
  have hx := X.1.1
  have hb := X.1.2.1
  intro n
  induction n with
  | zero => intro x1 m_now rr h H locs ls hH hl K0; cases h
  | succ n ih =>
    intro x1 m_now rr h H locs ls hH hl K0
    replace h : f_X9_follow_l99 fu m_sends m_many m_ahead x2 (lp (f_X9_follow_l99 fu m_sends m_many m_ahead x2) n) (x1, m_now) = some rr := h
    dsimp only [f_X9_follow_l99] at h
    refine lv_iload_n (pc := 99) hx hb dX9_follow_99 rfl (lv_at hl 1 rfl) ?_
    refine lv_aload_n (pc := 100) hx hb dX9_follow_100 rfl (lv_at hl 0 rfl) ?_
    refine z_get (pc := 101) (v := .int m_many) X iX9_follow_X9 hH 0 rfl rfl 7 rfl (List.mem_of_getElem? (i := 2) rfl) rfl dX9_follow_101 ?_
    refine lv_icmp_ge (pc := 104) (tgt := 270) hx hb dX9_follow_104 rfl (fun zc1 => ?_) (fun zc1 => ?_)
    · have h := zt zc1 h
      obtain rfl := Option.some.inj h
      exact K0 _ _ _ hH (lv_sub hl [0, 1] rfl)
    have h := zf zc1 h
    refine lv_aload_n (pc := 107) hx hb dX9_follow_107 rfl (lv_at hl 0 rfl) ?_
    refine z_get (pc := 108) (v := .ref (mq 6)) X iX9_follow_X9 hH 0 rfl rfl 6 rfl (List.mem_of_getElem? (i := 3) rfl) rfl dX9_follow_108 ?_
    refine lv_bipush (v := 6) (pc := 111) hx hb dX9_follow_111 zk_b6 ?_
    refine lv_iload_n (pc := 113) hx hb dX9_follow_113 rfl (lv_at hl 1 rfl) ?_
    refine lv_imul (pc := 114) hx hb dX9_follow_114 ?_
    obtain ⟨hin, h⟩ := zg h
    refine z_iald (pc := 115) X hH 6 rfl hin dX9_follow_115 ?_
    refine lv_iload_n (pc := 116) hx hb dX9_follow_116 rfl (lv_at hl 2 rfl) ?_
    refine lv_icmp_ne (pc := 117) (tgt := 270) hx hb dX9_follow_117 rfl (fun zc2 => ?_) (fun zc2 => ?_)
    · have h := zf zc2 h
      obtain rfl := Option.some.inj h
      exact K0 _ _ _ hH (lv_sub hl [0, 1] rfl)
    have h := zt zc2 h
    refine lv_sipush (v := 256) (pc := 120) hx hb dX9_follow_120 zk_s256 ?_
    refine lv_bipush (v := 16) (pc := 123) hx hb dX9_follow_123 zk_b16 ?_
    refine lv_aload_n (pc := 125) hx hb dX9_follow_125 rfl (lv_at hl 0 rfl) ?_
    refine z_get (pc := 126) (v := .ref (mq 6)) X iX9_follow_X9 hH 0 rfl rfl 6 rfl (List.mem_of_getElem? (i := 3) rfl) rfl dX9_follow_126 ?_
    refine lv_bipush (v := 6) (pc := 129) hx hb dX9_follow_129 zk_b6 ?_
    refine lv_iload_n (pc := 131) hx hb dX9_follow_131 rfl (lv_at hl 1 rfl) ?_
    refine lv_imul (pc := 132) hx hb dX9_follow_132 ?_
    refine lv_iconst (v := 1) (pc := 133) hx hb dX9_follow_133 zk_c1 ?_
    refine lv_iadd (pc := 134) hx hb dX9_follow_134 ?_
    obtain ⟨hin, h⟩ := zg h
    refine z_iald (pc := 135) X hH 6 rfl hin dX9_follow_135 ?_
    refine lv_imul (pc := 136) hx hb dX9_follow_136 ?_
    refine lv_aload_n (pc := 137) hx hb dX9_follow_137 rfl (lv_at hl 0 rfl) ?_
    refine z_get (pc := 138) (v := .ref (mq 6)) X iX9_follow_X9 hH 0 rfl rfl 6 rfl (List.mem_of_getElem? (i := 3) rfl) rfl dX9_follow_138 ?_
    refine lv_bipush (v := 6) (pc := 141) hx hb dX9_follow_141 zk_b6 ?_
    refine lv_iload_n (pc := 143) hx hb dX9_follow_143 rfl (lv_at hl 1 rfl) ?_
    refine lv_imul (pc := 144) hx hb dX9_follow_144 ?_
    refine lv_iconst (v := 3) (pc := 145) hx hb dX9_follow_145 zk_c3 ?_
    refine lv_iadd (pc := 146) hx hb dX9_follow_146 ?_
    obtain ⟨hin, h⟩ := zg h
    refine z_iald (pc := 147) X hH 6 rfl hin dX9_follow_147 ?_
    refine lv_iadd (pc := 148) hx hb dX9_follow_148 ?_
    refine lv_imul (pc := 149) hx hb dX9_follow_149 ?_
    refine lv_topi (fun za3 eza3 => ?_)
    have h := vn_s h za3 eza3
    refine lv_istore_n (pc := 150) (lv' := [(3, .int za3), (0, .ref (mq 0)), (1, .int x1), (2, .int x2)]) hx hb dX9_follow_150 rfl hl (by decide) rfl (fun ls hl => ?_)
    refine lv_sipush (v := 256) (pc := 151) hx hb dX9_follow_151 zk_s256 ?_
    refine lv_bipush (v := 16) (pc := 154) hx hb dX9_follow_154 zk_b16 ?_
    refine lv_aload_n (pc := 156) hx hb dX9_follow_156 rfl (lv_at hl 1 rfl) ?_
    refine z_get (pc := 157) (v := .ref (mq 6)) X iX9_follow_X9 hH 0 rfl rfl 6 rfl (List.mem_of_getElem? (i := 3) rfl) rfl dX9_follow_157 ?_
    refine lv_bipush (v := 6) (pc := 160) hx hb dX9_follow_160 zk_b6 ?_
    refine lv_iload_n (pc := 162) hx hb dX9_follow_162 rfl (lv_at hl 2 rfl) ?_
    refine lv_imul (pc := 163) hx hb dX9_follow_163 ?_
    refine lv_iconst (v := 2) (pc := 164) hx hb dX9_follow_164 zk_c2 ?_
    refine lv_iadd (pc := 165) hx hb dX9_follow_165 ?_
    obtain ⟨hin, h⟩ := zg h
    refine z_iald (pc := 166) X hH 6 rfl hin dX9_follow_166 ?_
    refine lv_imul (pc := 167) hx hb dX9_follow_167 ?_
    refine lv_aload_n (pc := 168) hx hb dX9_follow_168 rfl (lv_at hl 1 rfl) ?_
    refine z_get (pc := 169) (v := .ref (mq 6)) X iX9_follow_X9 hH 0 rfl rfl 6 rfl (List.mem_of_getElem? (i := 3) rfl) rfl dX9_follow_169 ?_
    refine lv_bipush (v := 6) (pc := 172) hx hb dX9_follow_172 zk_b6 ?_
    refine lv_iload_n (pc := 174) hx hb dX9_follow_174 rfl (lv_at hl 2 rfl) ?_
    refine lv_imul (pc := 175) hx hb dX9_follow_175 ?_
    refine lv_iconst (v := 4) (pc := 176) hx hb dX9_follow_176 zk_c4 ?_
    refine lv_iadd (pc := 177) hx hb dX9_follow_177 ?_
    obtain ⟨hin, h⟩ := zg h
    refine z_iald (pc := 178) X hH 6 rfl hin dX9_follow_178 ?_
    refine lv_iadd (pc := 179) hx hb dX9_follow_179 ?_
    refine lv_imul (pc := 180) hx hb dX9_follow_180 ?_
    refine lv_topi (fun za4 eza4 => ?_)
    have h := vn_s h za4 eza4
    refine lv_istore (pc := 181) (lv' := [(4, .int za4), (3, .int za3), (0, .ref (mq 0)), (1, .int x1), (2, .int x2)]) hx hb dX9_follow_181 hl (by decide) rfl (fun ls hl => ?_)
    refine lv_iconst (v := 0) (pc := 183) hx hb dX9_follow_183 zk_c0 ?_
    refine lv_istore (pc := 184) (lv' := [(5, .int 0), (4, .int za4), (3, .int za3), (0, .ref (mq 0)), (1, .int x1), (2, .int x2)]) hx hb dX9_follow_184 hl (by decide) rfl (fun ls hl => ?_)
    obtain ⟨zr5, hzr5, h⟩ := zb h
    refine w_X9_follow_l186 G cy fu mq m_hosts m_lost m_late m_wait m_per m_blocks m_sends m_many m_made m_madeMany m_lacking m_thrown m_ahead m_then m_time m_timeThen m_isThere m_comes x1 x2 za3 za4 X fu 0 m_now zr5 hzr5 _ _ _ hH (lv_sub hl [3, 4, 5, 2, 1, 0] rfl) (fun H locs ls hH hl => ?_)
    refine lv_iinc (pc := 264) (v := (x1 + 1)) (lv' := [(1, .int (x1 + 1)), (0, .ref (mq 0)), (2, .int x2)]) hx hb dX9_follow_264 hl (k := 1) rfl (by rw [zk_c1]) (by decide) rfl (fun ls hl => ?_)
    refine lv_goto (pc := 267) (tgt := 99) hx hb dX9_follow_267 rfl ?_
    exact ih (x1 + 1) zr5 rr h _ _ _ hH (lv_sub hl [1, 0, 2] rfl) K0
set_option maxHeartbeats 4000000 in
set_option maxRecDepth 100000 in
theorem w_X9_follow_l55 {p : Program} {l : Launch} {e : Env} {s : State} {m : MethodId} {args : Array Value} {below : List Frame} {meth : Method} {c : Code} {A : Nat → Prop} {Q : State → Prop} (G : va_G) (cy : Nat → ClassId) (fu : Nat) (mq : Nat → Nat) (m_hosts : Int32) (m_lost : Nat → Int32) (m_late : Nat → Int32) (m_wait : Nat → Int32) (m_per : Nat → Int32) (m_blocks : Nat → Int32) (m_sends : Nat → Int32) (m_many : Int32) (m_made : Nat → Int32) (m_madeMany : Int32) (m_lacking : Int32) (m_thrown : Int32) (m_then : Nat → Int32) (m_time : Nat → Int32) (m_timeThen : Nat → Int32) (m_isThere : Nat → Int32) (m_comes : Nat → Int32) (X : zX p s m args meth c RX9 cX9_follow 7 wsX9_follow G cy A) : ∀ (n : Nat) (x1 : Int32) (m_now : Nat → Int32) (m_ahead : Nat → Int32) (rr : (Nat → Int32) × (Nat → Int32)) (h : lp (f_X9_follow_l55 fu m_sends m_many) n (x1, m_now, m_ahead) = some rr) (H : Heap) (locs : List Loc) (ls : Array Slot) (hH : zH G A s.heap (wM cy mq m_hosts m_lost m_late m_wait m_per m_blocks m_sends m_many m_made m_madeMany m_lacking m_thrown m_now m_ahead m_then m_time m_timeThen m_isThere m_comes) H locs) (hl : lv_has ls 7 [(0, .ref (mq 0)), (1, .int x1)]) (K0 : ∀ (H : Heap) (locs : List Loc) (ls : Array Slot), zH G A s.heap (wM cy mq m_hosts m_lost m_late m_wait m_per m_blocks m_sends m_many m_made m_madeMany m_lacking m_thrown rr.1 rr.2 m_then m_time m_timeThen m_isThere m_comes) H locs → lv_has ls 7 [] → W p l e (zR 0 0) s m args below meth c H locs 0 0 Q (F0 m 273 ls [])), W p l e (zR 0 0) s m args below meth c H locs 0 0 Q (F0 m 55 ls []) := by
  have hx := X.1.1
  have hb := X.1.2.1
  intro n
  induction n with
  | zero => intro x1 m_now m_ahead rr h H locs ls hH hl K0; cases h
  | succ n ih =>
    intro x1 m_now m_ahead rr h H locs ls hH hl K0
    replace h : f_X9_follow_l55 fu m_sends m_many (lp (f_X9_follow_l55 fu m_sends m_many) n) (x1, m_now, m_ahead) = some rr := h
    dsimp only [f_X9_follow_l55] at h
    refine lv_iload_n (pc := 55) hx hb dX9_follow_55 rfl (lv_at hl 1 rfl) ?_
    refine lv_aload_n (pc := 56) hx hb dX9_follow_56 rfl (lv_at hl 0 rfl) ?_
    refine z_get (pc := 57) (v := .int m_many) X iX9_follow_X9 hH 0 rfl rfl 7 rfl (List.mem_of_getElem? (i := 2) rfl) rfl dX9_follow_57 ?_
    refine lv_icmp_ge (pc := 60) (tgt := 273) hx hb dX9_follow_60 rfl (fun zc1 => ?_) (fun zc1 => ?_)
    · have h := zt zc1 h
      obtain rfl := Option.some.inj h
      exact K0 _ _ _ hH (lv_sub hl [] rfl)
    have h := zf zc1 h
    refine lv_aload_n (pc := 63) hx hb dX9_follow_63 rfl (lv_at hl 0 rfl) ?_
    refine z_get (pc := 64) (v := .ref (mq 6)) X iX9_follow_X9 hH 0 rfl rfl 6 rfl (List.mem_of_getElem? (i := 3) rfl) rfl dX9_follow_64 ?_
    refine lv_bipush (v := 6) (pc := 67) hx hb dX9_follow_67 zk_b6 ?_
    refine lv_iload_n (pc := 69) hx hb dX9_follow_69 rfl (lv_at hl 1 rfl) ?_
    refine lv_imul (pc := 70) hx hb dX9_follow_70 ?_
    obtain ⟨hin, h⟩ := zg h
    refine z_iald (pc := 71) X hH 6 rfl hin dX9_follow_71 ?_
    refine lv_topi (fun za2 eza2 => ?_)
    have h := vn_s h za2 eza2
    refine lv_istore_n (pc := 72) (lv' := [(2, .int za2), (0, .ref (mq 0)), (1, .int x1)]) hx hb dX9_follow_72 rfl hl (by decide) rfl (fun ls hl => ?_)
    refine lv_iconst (v := 0) (pc := 73) hx hb dX9_follow_73 zk_c0 ?_
    refine lv_istore_n (pc := 74) (lv' := [(3, .int 0), (2, .int za2), (0, .ref (mq 0)), (1, .int x1)]) hx hb dX9_follow_74 rfl hl (by decide) rfl (fun ls hl => ?_)
    obtain ⟨zr3, hzr3, h⟩ := zb h
    refine w_X9_follow_l75 G cy fu mq m_hosts m_lost m_late m_wait m_per m_blocks m_sends m_many m_made m_madeMany m_lacking m_thrown m_now m_then m_time m_timeThen m_isThere m_comes x1 za2 X fu 0 m_ahead zr3 hzr3 _ _ _ hH (lv_sub hl [2, 3, 1, 0] rfl) (fun H locs ls hH hl => ?_)
    obtain ⟨zr4, hzr4, h⟩ := zb h
    refine w_X9_follow_l99 G cy fu mq m_hosts m_lost m_late m_wait m_per m_blocks m_sends m_many m_made m_madeMany m_lacking m_thrown zr3 m_then m_time m_timeThen m_isThere m_comes za2 X fu x1 m_now zr4 hzr4 _ _ _ hH (lv_sub hl [0, 1, 2] rfl) (fun H locs ls hH hl => ?_)
    refine lv_goto (pc := 270) (tgt := 55) hx hb dX9_follow_270 rfl ?_
    exact ih zr4.1 zr4.2 zr3 rr h _ _ _ hH (lv_sub hl [0, 1] rfl) K0
set_option maxHeartbeats 4000000 in
set_option maxRecDepth 100000 in
theorem c_X9_follow (l : Launch) (G : va_G) (cy : Nat → ClassId) (fu : Nat) (mq : Nat → Nat) (m_hosts : Int32) (m_lost : Nat → Int32) (m_late : Nat → Int32) (m_wait : Nat → Int32) (m_per : Nat → Int32) (m_blocks : Nat → Int32) (m_sends : Nat → Int32) (m_many : Int32) (m_made : Nat → Int32) (m_madeMany : Int32) (m_lacking : Int32) (m_thrown : Int32) (m_now : Nat → Int32) (m_ahead : Nat → Int32) (m_then : Nat → Int32) (m_time : Nat → Int32) (m_timeThen : Nat → Int32) (m_isThere : Nat → Int32) (m_comes : Nat → Int32)  (rr : (Nat → Int32) × (Nat → Int32)) (h : f_X9_follow fu m_sends m_many m_now m_ahead = some rr) : zM l G cy yX9_follow wsX9_follow (zR 0 0) [.ref (mq 0)] (wM cy mq m_hosts m_lost m_late m_wait m_per m_blocks m_sends m_many m_made m_madeMany m_lacking m_thrown m_now m_ahead m_then m_time m_timeThen m_isThere m_comes) (wM cy mq m_hosts m_lost m_late m_wait m_per m_blocks m_sends m_many m_made m_madeMany m_lacking m_thrown rr.1 rr.2 m_then m_time m_timeThen m_isThere m_comes) none := by
  refine zM.mk (cc := cX9_follow) (nL := 7) (ret := none) (by decide) rfl (Nat.le_of_ble_eq_true rfl) ?_
  intro p e s m below meth c A ls X hr hH hl
  replace X : zX p s m [.ref (mq 0)].toArray meth c RX9 cX9_follow 7 wsX9_follow G cy A := X
  have hx := X.1.1
  have hb := X.1.2.1
  replace hl : lv_has ls 7 [(0, .ref (mq 0))] := hl
  dsimp only [f_X9_follow] at h
  refine lv_iconst (v := 0) (pc := 0) hx hb dX9_follow_0 zk_c0 ?_
  refine lv_istore_n (pc := 1) (lv' := [(1, .int 0), (0, .ref (mq 0))]) hx hb dX9_follow_1 rfl hl (by decide) rfl (fun ls hl => ?_)
  obtain ⟨zr1, hzr1, h⟩ := zb h
  refine w_X9_follow_l2 G cy fu mq m_hosts m_lost m_late m_wait m_per m_blocks m_sends m_many m_made m_madeMany m_lacking m_thrown m_ahead m_then m_time m_timeThen m_isThere m_comes X fu 0 m_now zr1 hzr1 _ _ _ hH (lv_sub hl [1, 0] rfl) (fun H locs ls hH hl => ?_)
  refine lv_iconst (v := 0) (pc := 53) hx hb dX9_follow_53 zk_c0 ?_
  refine lv_istore_n (pc := 54) (lv' := [(1, .int 0), (0, .ref (mq 0))]) hx hb dX9_follow_54 rfl hl (by decide) rfl (fun ls hl => ?_)
  obtain ⟨zr2, hzr2, h⟩ := zb h
  refine w_X9_follow_l55 G cy fu mq m_hosts m_lost m_late m_wait m_per m_blocks m_sends m_many m_made m_madeMany m_lacking m_thrown m_then m_time m_timeThen m_isThere m_comes X fu 0 zr1 m_ahead zr2 hzr2 _ _ _ hH (lv_sub hl [1, 0] rfl) (fun H locs ls hH hl => ?_)
  obtain rfl := Option.some.inj h
  exact z_vret X hr hH dX9_follow_273
set_option maxHeartbeats 4000000 in
set_option maxRecDepth 100000 in
theorem c_X9_due (l : Launch) (G : va_G) (cy : Nat → ClassId) (fu : Nat) (mq : Nat → Nat) (m_hosts : Int32) (m_lost : Nat → Int32) (m_late : Nat → Int32) (m_wait : Nat → Int32) (m_per : Nat → Int32) (m_blocks : Nat → Int32) (m_sends : Nat → Int32) (m_many : Int32) (m_made : Nat → Int32) (m_madeMany : Int32) (m_lacking : Int32) (m_thrown : Int32) (m_now : Nat → Int32) (m_ahead : Nat → Int32) (m_then : Nat → Int32) (m_time : Nat → Int32) (m_timeThen : Nat → Int32) (m_isThere : Nat → Int32) (m_comes : Nat → Int32) (x1 : Int32) (x2 : Int32) (x3 : Int32) (x4 : Int32) (x5 : Int32) (x6 : Int32) (x7 : Int32) (rr : Int32) (h : f_X9_due fu m_hosts m_lost x1 x2 x3 x4 x5 x6 x7 = some rr) : zM l G cy yX9_due wsX9_due (zR 3 64) [.ref (mq 0), .int x1, .int x2, .int x3, .int x4, .int x5, .int x6, .int x7] (wM cy mq m_hosts m_lost m_late m_wait m_per m_blocks m_sends m_many m_made m_madeMany m_lacking m_thrown m_now m_ahead m_then m_time m_timeThen m_isThere m_comes) (wM cy mq m_hosts m_lost m_late m_wait m_per m_blocks m_sends m_many m_made m_madeMany m_lacking m_thrown m_now m_ahead m_then m_time m_timeThen m_isThere m_comes) (some (.int rr)) := by
  refine zM.mk (cc := cX9_due) (nL := 8) (ret := (some .int)) (by decide) rfl (Nat.le_of_ble_eq_true rfl) ?_
  intro p e s m below meth c A ls X hr hH hl
  replace X : zX p s m [.ref (mq 0), .int x1, .int x2, .int x3, .int x4, .int x5, .int x6, .int x7].toArray meth c RX9 cX9_due 8 wsX9_due G cy A := X
  have hx := X.1.1
  have hb := X.1.2.1
  replace hl : lv_has ls 8 [(0, .ref (mq 0)), (1, .int x1), (2, .int x2), (3, .int x3), (4, .int x4), (5, .int x5), (6, .int x6), (7, .int x7)] := hl
  dsimp only [f_X9_due] at h
  refine lv_iload (pc := 0) hx hb dX9_due_0 (lv_at hl 4 rfl) ?_
  refine lv_iload (pc := 2) hx hb dX9_due_2 (lv_at hl 7 rfl) ?_
  refine lv_icmp_lt (pc := 4) (tgt := 26) hx hb dX9_due_4 rfl (fun zc1 => ?_) (fun zc1 => ?_)
  · have h := zt zc1 h
    refine lv_iload_n (pc := 26) hx hb dX9_due_26 rfl (lv_at hl 1 rfl) ?_
    by_cases zc2 : x1 = 0
    · have h := zt zc2 h
      refine lv_tableIn (pc := 27) (off := 29) (tgt := 56) hx hb dX9_due_27 (by rw [zc2]; decide) (by rw [zc2]; decide) (by rw [zc2]; rfl) rfl ?_
      refine lv_iload (pc := 56) hx hb dX9_due_56 (lv_at hl 5 rfl) ?_
      refine lv_iload_n (pc := 58) hx hb dX9_due_58 rfl (lv_at hl 2 rfl) ?_
      refine lv_icmp_ne (pc := 59) (tgt := 73) hx hb dX9_due_59 rfl (fun zc3 => ?_) (fun zc3 => ?_)
      · have h := zf zc3 h
        refine lv_iconst (v := 0) (pc := 73) hx hb dX9_due_73 zk_c0 ?_
        obtain rfl := Option.some.inj h
        exact z_iret X hr hH dX9_due_74
      have h := zt zc3 h
      refine lv_iload (pc := 62) hx hb dX9_due_62 (lv_at hl 6 rfl) ?_
      refine lv_iload (pc := 64) hx hb dX9_due_64 (lv_at hl 4 rfl) ?_
      refine lv_icmp_ne (pc := 66) (tgt := 73) hx hb dX9_due_66 rfl (fun zc4 => ?_) (fun zc4 => ?_)
      · have h := zf zc4 h
        refine lv_iconst (v := 0) (pc := 73) hx hb dX9_due_73 zk_c0 ?_
        obtain rfl := Option.some.inj h
        exact z_iret X hr hH dX9_due_74
      have h := zt zc4 h
      refine lv_iconst (v := 1) (pc := 69) hx hb dX9_due_69 zk_c1 ?_
      refine lv_goto (pc := 70) (tgt := 74) hx hb dX9_due_70 rfl ?_
      obtain rfl := Option.some.inj h
      exact z_iret X hr hH dX9_due_74
    have h := zf zc2 h
    by_cases zc5 : x1 = 1
    · have h := zt zc5 h
      refine lv_tableIn (pc := 27) (off := 48) (tgt := 75) hx hb dX9_due_27 (by rw [zc5]; decide) (by rw [zc5]; decide) (by rw [zc5]; rfl) rfl ?_
      refine lv_iload_n (pc := 75) hx hb dX9_due_75 rfl (lv_at hl 3 rfl) ?_
      refine lv_iload_n (pc := 76) hx hb dX9_due_76 rfl (lv_at hl 2 rfl) ?_
      refine lv_icmp_eq (pc := 77) (tgt := 84) hx hb dX9_due_77 rfl (fun zc6 => ?_) (fun zc6 => ?_)
      · have h := zt zc6 h
        refine lv_iload (pc := 84) hx hb dX9_due_84 (lv_at hl 6 rfl) ?_
        refine lv_iload (pc := 86) hx hb dX9_due_86 (lv_at hl 4 rfl) ?_
        refine lv_icmp_ne (pc := 88) (tgt := 104) hx hb dX9_due_88 rfl (fun zc7 => ?_) (fun zc7 => ?_)
        · have h := zf zc7 h
          refine lv_iconst (v := 0) (pc := 104) hx hb dX9_due_104 zk_c0 ?_
          obtain rfl := Option.some.inj h
          exact z_iret X hr hH dX9_due_105
        have h := zt zc7 h
        refine lv_aload_n (pc := 91) hx hb dX9_due_91 rfl (lv_at hl 0 rfl) ?_
        refine lv_iload (pc := 92) hx hb dX9_due_92 (lv_at hl 5 rfl) ?_
        obtain ⟨zr8, hzr8, h⟩ := zb h
        refine zcV (pc := 94) (As := [.int x5]) (rest := []) (st1 := [.int zr8]) (ws' := wM cy mq m_hosts m_lost m_late m_wait m_per m_blocks m_sends m_many m_made m_madeMany m_lacking m_thrown m_now m_ahead m_then m_time m_timeThen m_isThere m_comes) (wr := []) (n := 1) (q0 := 0) X (c_X9_isLive l G cy fu mq m_hosts m_lost m_late m_wait m_per m_blocks m_sends m_many m_made m_madeMany m_lacking m_thrown m_now m_ahead m_then m_time m_timeThen m_isThere m_comes x5 zr8 hzr8) hH [0, 1, 2, 3, 4, 5, 6, 7, 8, 9, 10, 11, 12, 13, 14] [] [0, 1, 2, 3, 4, 5, 6, 7, 8, 9, 10, 11, 12, 13, 14] rfl rfl rfl rfl gX9_due_X9_isLive rfl ⟨rfl, rfl⟩ kX9_isLive ⟨Nat.le_of_ble_eq_true rfl, Nat.le_of_ble_eq_true rfl⟩ rfl rfl rfl rfl rfl hl.1 (Nat.le_of_ble_eq_true rfl) ⟨Nat.le_of_ble_eq_true rfl, Nat.le_of_ble_eq_true rfl⟩ dX9_due_94 (fun H locs hH => ?_)
        refine lv_if_eq (pc := 97) (tgt := 104) hx hb dX9_due_97 rfl (fun zc9 => ?_) (fun zc9 => ?_)
        · have h := zt zc9 h
          refine lv_iconst (v := 0) (pc := 104) hx hb dX9_due_104 zk_c0 ?_
          obtain rfl := Option.some.inj h
          exact z_iret X hr hH dX9_due_105
        have h := zf zc9 h
        refine lv_iconst (v := 1) (pc := 100) hx hb dX9_due_100 zk_c1 ?_
        refine lv_goto (pc := 101) (tgt := 105) hx hb dX9_due_101 rfl ?_
        obtain rfl := Option.some.inj h
        exact z_iret X hr hH dX9_due_105
      have h := zf zc6 h
      refine lv_iconst (v := (-1)) (pc := 80) hx hb dX9_due_80 zk_cm1 ?_
      refine lv_goto (pc := 81) (tgt := 105) hx hb dX9_due_81 rfl ?_
      obtain rfl := Option.some.inj h
      exact z_iret X hr hH dX9_due_105
    have h := zf zc5 h
    by_cases zc10 : x1 = 2
    · have h := zt zc10 h
      refine lv_tableIn (pc := 27) (off := 79) (tgt := 106) hx hb dX9_due_27 (by rw [zc10]; decide) (by rw [zc10]; decide) (by rw [zc10]; rfl) rfl ?_
      refine lv_iload (pc := 106) hx hb dX9_due_106 (lv_at hl 6 rfl) ?_
      refine lv_iload (pc := 108) hx hb dX9_due_108 (lv_at hl 4 rfl) ?_
      refine lv_icmp_ne (pc := 110) (tgt := 126) hx hb dX9_due_110 rfl (fun zc11 => ?_) (fun zc11 => ?_)
      · have h := zf zc11 h
        refine lv_iconst (v := 0) (pc := 126) hx hb dX9_due_126 zk_c0 ?_
        obtain rfl := Option.some.inj h
        exact z_iret X hr hH dX9_due_127
      have h := zt zc11 h
      refine lv_aload_n (pc := 113) hx hb dX9_due_113 rfl (lv_at hl 0 rfl) ?_
      refine lv_iload (pc := 114) hx hb dX9_due_114 (lv_at hl 5 rfl) ?_
      obtain ⟨zr12, hzr12, h⟩ := zb h
      refine zcV (pc := 116) (As := [.int x5]) (rest := []) (st1 := [.int zr12]) (ws' := wM cy mq m_hosts m_lost m_late m_wait m_per m_blocks m_sends m_many m_made m_madeMany m_lacking m_thrown m_now m_ahead m_then m_time m_timeThen m_isThere m_comes) (wr := []) (n := 1) (q0 := 0) X (c_X9_isLive l G cy fu mq m_hosts m_lost m_late m_wait m_per m_blocks m_sends m_many m_made m_madeMany m_lacking m_thrown m_now m_ahead m_then m_time m_timeThen m_isThere m_comes x5 zr12 hzr12) hH [0, 1, 2, 3, 4, 5, 6, 7, 8, 9, 10, 11, 12, 13, 14] [] [0, 1, 2, 3, 4, 5, 6, 7, 8, 9, 10, 11, 12, 13, 14] rfl rfl rfl rfl gX9_due_X9_isLive rfl ⟨rfl, rfl⟩ kX9_isLive ⟨Nat.le_of_ble_eq_true rfl, Nat.le_of_ble_eq_true rfl⟩ rfl rfl rfl rfl rfl hl.1 (Nat.le_of_ble_eq_true rfl) ⟨Nat.le_of_ble_eq_true rfl, Nat.le_of_ble_eq_true rfl⟩ dX9_due_116 (fun H locs hH => ?_)
      refine lv_if_eq (pc := 119) (tgt := 126) hx hb dX9_due_119 rfl (fun zc13 => ?_) (fun zc13 => ?_)
      · have h := zt zc13 h
        refine lv_iconst (v := 0) (pc := 126) hx hb dX9_due_126 zk_c0 ?_
        obtain rfl := Option.some.inj h
        exact z_iret X hr hH dX9_due_127
      have h := zf zc13 h
      refine lv_iconst (v := 1) (pc := 122) hx hb dX9_due_122 zk_c1 ?_
      refine lv_goto (pc := 123) (tgt := 127) hx hb dX9_due_123 rfl ?_
      obtain rfl := Option.some.inj h
      exact z_iret X hr hH dX9_due_127
    have h := zf zc10 h
    by_cases zc14 : x1 = 3
    · have h := zt zc14 h
      refine lv_tableIn (pc := 27) (off := 101) (tgt := 128) hx hb dX9_due_27 (by rw [zc14]; decide) (by rw [zc14]; decide) (by rw [zc14]; rfl) rfl ?_
      refine lv_iload (pc := 128) hx hb dX9_due_128 (lv_at hl 5 rfl) ?_
      refine lv_aload_n (pc := 130) hx hb dX9_due_130 rfl (lv_at hl 0 rfl) ?_
      refine lv_iload (pc := 131) hx hb dX9_due_131 (lv_at hl 4 rfl) ?_
      obtain ⟨zr15, hzr15, h⟩ := zb h
      refine zcV (pc := 133) (As := [.int x4]) (rest := [.int x5]) (st1 := [.int zr15, .int x5]) (ws' := wM cy mq m_hosts m_lost m_late m_wait m_per m_blocks m_sends m_many m_made m_madeMany m_lacking m_thrown m_now m_ahead m_then m_time m_timeThen m_isThere m_comes) (wr := []) (n := 1) (q0 := 0) X (c_X9_hostOf l G cy fu mq m_hosts m_lost m_late m_wait m_per m_blocks m_sends m_many m_made m_madeMany m_lacking m_thrown m_now m_ahead m_then m_time m_timeThen m_isThere m_comes x4 zr15 hzr15) hH [0, 1, 2, 3, 4, 5, 6, 7, 8, 9, 10, 11, 12, 13, 14] [] [0, 1, 2, 3, 4, 5, 6, 7, 8, 9, 10, 11, 12, 13, 14] rfl rfl rfl rfl gX9_due_X9_hostOf rfl ⟨rfl, rfl⟩ kX9_hostOf ⟨Nat.le_of_ble_eq_true rfl, Nat.le_of_ble_eq_true rfl⟩ rfl rfl rfl rfl rfl hl.1 (Nat.le_of_ble_eq_true rfl) ⟨Nat.le_of_ble_eq_true rfl, Nat.le_of_ble_eq_true rfl⟩ dX9_due_133 (fun H locs hH => ?_)
      refine lv_icmp_ne (pc := 136) (tgt := 150) hx hb dX9_due_136 rfl (fun zc16 => ?_) (fun zc16 => ?_)
      · have h := zf zc16 h
        refine lv_iconst (v := 0) (pc := 150) hx hb dX9_due_150 zk_c0 ?_
        obtain rfl := Option.some.inj h
        exact z_iret X hr hH dX9_due_151
      have h := zt zc16 h
      refine lv_iload (pc := 139) hx hb dX9_due_139 (lv_at hl 6 rfl) ?_
      refine lv_iload (pc := 141) hx hb dX9_due_141 (lv_at hl 4 rfl) ?_
      refine lv_icmp_ne (pc := 143) (tgt := 150) hx hb dX9_due_143 rfl (fun zc17 => ?_) (fun zc17 => ?_)
      · have h := zf zc17 h
        refine lv_iconst (v := 0) (pc := 150) hx hb dX9_due_150 zk_c0 ?_
        obtain rfl := Option.some.inj h
        exact z_iret X hr hH dX9_due_151
      have h := zt zc17 h
      refine lv_iconst (v := 1) (pc := 146) hx hb dX9_due_146 zk_c1 ?_
      refine lv_goto (pc := 147) (tgt := 151) hx hb dX9_due_147 rfl ?_
      obtain rfl := Option.some.inj h
      exact z_iret X hr hH dX9_due_151
    have h := zf zc14 h
    refine lv_tableOut (pc := 27) (tgt := 152) hx hb dX9_due_27 (by have n0 := lv_neT zc2 (show (0 : Int32).toInt = 0 by decide); have n1 := lv_neT zc5 (show (1 : Int32).toInt = 1 by decide); have n2 := lv_neT zc10 (show (2 : Int32).toInt = 2 by decide); have n3 := lv_neT zc14 (show (3 : Int32).toInt = 3 by decide); omega) rfl ?_
    refine lv_iload (pc := 152) hx hb dX9_due_152 (lv_at hl 5 rfl) ?_
    refine lv_aload_n (pc := 154) hx hb dX9_due_154 rfl (lv_at hl 0 rfl) ?_
    refine lv_iload (pc := 155) hx hb dX9_due_155 (lv_at hl 4 rfl) ?_
    obtain ⟨zr18, hzr18, h⟩ := zb h
    refine zcV (pc := 157) (As := [.int x4]) (rest := [.int x5]) (st1 := [.int zr18, .int x5]) (ws' := wM cy mq m_hosts m_lost m_late m_wait m_per m_blocks m_sends m_many m_made m_madeMany m_lacking m_thrown m_now m_ahead m_then m_time m_timeThen m_isThere m_comes) (wr := []) (n := 1) (q0 := 0) X (c_X9_hostOf l G cy fu mq m_hosts m_lost m_late m_wait m_per m_blocks m_sends m_many m_made m_madeMany m_lacking m_thrown m_now m_ahead m_then m_time m_timeThen m_isThere m_comes x4 zr18 hzr18) hH [0, 1, 2, 3, 4, 5, 6, 7, 8, 9, 10, 11, 12, 13, 14] [] [0, 1, 2, 3, 4, 5, 6, 7, 8, 9, 10, 11, 12, 13, 14] rfl rfl rfl rfl gX9_due_X9_hostOf rfl ⟨rfl, rfl⟩ kX9_hostOf ⟨Nat.le_of_ble_eq_true rfl, Nat.le_of_ble_eq_true rfl⟩ rfl rfl rfl rfl rfl hl.1 (Nat.le_of_ble_eq_true rfl) ⟨Nat.le_of_ble_eq_true rfl, Nat.le_of_ble_eq_true rfl⟩ dX9_due_157 (fun H locs hH => ?_)
    refine lv_icmp_ne (pc := 160) (tgt := 177) hx hb dX9_due_160 rfl (fun zc19 => ?_) (fun zc19 => ?_)
    · have h := zf zc19 h
      refine lv_iconst (v := 0) (pc := 177) hx hb dX9_due_177 zk_c0 ?_
      obtain rfl := Option.some.inj h
      exact z_iret X hr hH dX9_due_178
    have h := zt zc19 h
    refine lv_iload (pc := 163) hx hb dX9_due_163 (lv_at hl 6 rfl) ?_
    refine lv_aload_n (pc := 165) hx hb dX9_due_165 rfl (lv_at hl 0 rfl) ?_
    refine lv_iload_n (pc := 166) hx hb dX9_due_166 rfl (lv_at hl 3 rfl) ?_
    obtain ⟨zr20, hzr20, h⟩ := zb h
    refine zcV (pc := 167) (As := [.int x3]) (rest := [.int x6]) (st1 := [.int zr20, .int x6]) (ws' := wM cy mq m_hosts m_lost m_late m_wait m_per m_blocks m_sends m_many m_made m_madeMany m_lacking m_thrown m_now m_ahead m_then m_time m_timeThen m_isThere m_comes) (wr := []) (n := 1) (q0 := 0) X (c_X9_rankOf l G cy fu mq m_hosts m_lost m_late m_wait m_per m_blocks m_sends m_many m_made m_madeMany m_lacking m_thrown m_now m_ahead m_then m_time m_timeThen m_isThere m_comes x3 zr20 hzr20) hH [0, 1, 2, 3, 4, 5, 6, 7, 8, 9, 10, 11, 12, 13, 14] [] [0, 1, 2, 3, 4, 5, 6, 7, 8, 9, 10, 11, 12, 13, 14] rfl rfl rfl rfl gX9_due_X9_rankOf rfl ⟨rfl, rfl⟩ kX9_rankOf ⟨Nat.le_of_ble_eq_true rfl, Nat.le_of_ble_eq_true rfl⟩ rfl rfl rfl rfl rfl hl.1 (Nat.le_of_ble_eq_true rfl) ⟨Nat.le_of_ble_eq_true rfl, Nat.le_of_ble_eq_true rfl⟩ dX9_due_167 (fun H locs hH => ?_)
    refine lv_icmp_ne (pc := 170) (tgt := 177) hx hb dX9_due_170 rfl (fun zc21 => ?_) (fun zc21 => ?_)
    · have h := zf zc21 h
      refine lv_iconst (v := 0) (pc := 177) hx hb dX9_due_177 zk_c0 ?_
      obtain rfl := Option.some.inj h
      exact z_iret X hr hH dX9_due_178
    have h := zt zc21 h
    refine lv_iconst (v := 1) (pc := 173) hx hb dX9_due_173 zk_c1 ?_
    refine lv_goto (pc := 174) (tgt := 178) hx hb dX9_due_174 rfl ?_
    obtain rfl := Option.some.inj h
    exact z_iret X hr hH dX9_due_178
  have h := zf zc1 h
  refine lv_iload_n (pc := 7) hx hb dX9_due_7 rfl (lv_at hl 3 rfl) ?_
  refine lv_iload (pc := 8) hx hb dX9_due_8 (lv_at hl 5 rfl) ?_
  refine lv_icmp_ne (pc := 10) (tgt := 24) hx hb dX9_due_10 rfl (fun zc22 => ?_) (fun zc22 => ?_)
  · have h := zf zc22 h
    refine lv_iconst (v := 0) (pc := 24) hx hb dX9_due_24 zk_c0 ?_
    obtain rfl := Option.some.inj h
    exact z_iret X hr hH dX9_due_25
  have h := zt zc22 h
  refine lv_iload (pc := 13) hx hb dX9_due_13 (lv_at hl 4 rfl) ?_
  refine lv_iload (pc := 15) hx hb dX9_due_15 (lv_at hl 6 rfl) ?_
  refine lv_icmp_ne (pc := 17) (tgt := 24) hx hb dX9_due_17 rfl (fun zc23 => ?_) (fun zc23 => ?_)
  · have h := zf zc23 h
    refine lv_iconst (v := 0) (pc := 24) hx hb dX9_due_24 zk_c0 ?_
    obtain rfl := Option.some.inj h
    exact z_iret X hr hH dX9_due_25
  have h := zt zc23 h
  refine lv_iconst (v := 1) (pc := 20) hx hb dX9_due_20 zk_c1 ?_
  refine lv_goto (pc := 21) (tgt := 25) hx hb dX9_due_21 rfl ?_
  obtain rfl := Option.some.inj h
  exact z_iret X hr hH dX9_due_25
set_option maxHeartbeats 4000000 in
set_option maxRecDepth 100000 in
theorem w_X9_right_l63 {p : Program} {l : Launch} {e : Env} {s : State} {m : MethodId} {args : Array Value} {below : List Frame} {meth : Method} {c : Code} {A : Nat → Prop} {Q : State → Prop} (G : va_G) (cy : Nat → ClassId) (fu : Nat) (mq : Nat → Nat) (m_hosts : Int32) (m_lost : Nat → Int32) (m_late : Nat → Int32) (m_wait : Nat → Int32) (m_per : Nat → Int32) (m_blocks : Nat → Int32) (m_sends : Nat → Int32) (m_many : Int32) (m_made : Nat → Int32) (m_madeMany : Int32) (m_lacking : Int32) (m_thrown : Int32) (m_now : Nat → Int32) (m_ahead : Nat → Int32) (m_then : Nat → Int32) (m_time : Nat → Int32) (m_timeThen : Nat → Int32) (m_isThere : Nat → Int32) (m_comes : Nat → Int32) (x1 : Int32) (x2 : Int32) (x3 : Int32) (x4 : Int32) (x5 : Int32) (X : zX p s m args meth c RX9 cX9_right 8 wsX9_right G cy A) : ∀ (n : Nat) (x6 : Int32) (rr : (Unit) ⊕ (Unit)) (h : lp (f_X9_right_l63 fu m_hosts m_lost m_now x1 x2 x3 x4 x5) n x6 = some rr) (H : Heap) (locs : List Loc) (ls : Array Slot) (hH : zH G A s.heap (wM cy mq m_hosts m_lost m_late m_wait m_per m_blocks m_sends m_many m_made m_madeMany m_lacking m_thrown m_now m_ahead m_then m_time m_timeThen m_isThere m_comes) H locs) (hl : lv_has ls 8 [(0, .ref (mq 0)), (1, .int x1), (2, .int x2), (3, .int x3), (4, .int x4), (5, .int x5), (6, .int x6)]) (K0 : ∀ (ra : Unit), rr = (.inl ra) → ∀ (H : Heap) (locs : List Loc) (ls : Array Slot), zH G A s.heap (wM cy mq m_hosts m_lost m_late m_wait m_per m_blocks m_sends m_many m_made m_madeMany m_lacking m_thrown m_now m_ahead m_then m_time m_timeThen m_isThere m_comes) H locs → lv_has ls 8 [(4, .int x4), (5, .int x5)] → W p l e (zR 4 91) s m args below meth c H locs 0 0 Q (F0 m 125 ls [])) (K1 : ∀ (ra : Unit), rr = (.inr ra) → ∀ (H : Heap) (locs : List Loc) (ls : Array Slot), zH G A s.heap (wM cy mq m_hosts m_lost m_late m_wait m_per m_blocks m_sends m_many m_made m_madeMany m_lacking m_thrown m_now m_ahead m_then m_time m_timeThen m_isThere m_comes) H locs → lv_has ls 8 [(0, .ref (mq 0)), (1, .int x1), (2, .int x2), (3, .int x3), (4, .int x4), (5, .int x5)] → W p l e (zR 4 91) s m args below meth c H locs 0 0 Q (F0 m 142 ls [])), W p l e (zR 4 91) s m args below meth c H locs 0 0 Q (F0 m 63 ls []) := by
  have hx := X.1.1
  have hb := X.1.2.1
  intro n
  induction n with
  | zero => intro x6 rr h H locs ls hH hl K0 K1; cases h
  | succ n ih =>
    intro x6 rr h H locs ls hH hl K0 K1
    replace h : f_X9_right_l63 fu m_hosts m_lost m_now x1 x2 x3 x4 x5 (lp (f_X9_right_l63 fu m_hosts m_lost m_now x1 x2 x3 x4 x5) n) x6 = some rr := h
    dsimp only [f_X9_right_l63] at h
    refine lv_iload (pc := 63) hx hb dX9_right_63 (lv_at hl 6 rfl) ?_
    refine lv_sipush (v := 256) (pc := 65) hx hb dX9_right_65 zk_s256 ?_
    refine lv_icmp_ge (pc := 68) (tgt := 142) hx hb dX9_right_68 rfl (fun zc1 => ?_) (fun zc1 => ?_)
    · have h := zt zc1 h
      exact K1 () (Option.some.inj h).symm _ _ _ hH (lv_sub hl [0, 1, 2, 3, 4, 5] rfl)
    have h := zf zc1 h
    refine lv_aload_n (pc := 71) hx hb dX9_right_71 rfl (lv_at hl 0 rfl) ?_
    refine lv_iload_n (pc := 72) hx hb dX9_right_72 rfl (lv_at hl 1 rfl) ?_
    refine lv_iload_n (pc := 73) hx hb dX9_right_73 rfl (lv_at hl 2 rfl) ?_
    refine lv_iload (pc := 74) hx hb dX9_right_74 (lv_at hl 4 rfl) ?_
    refine lv_iload (pc := 76) hx hb dX9_right_76 (lv_at hl 5 rfl) ?_
    refine lv_iload (pc := 78) hx hb dX9_right_78 (lv_at hl 6 rfl) ?_
    refine lv_bipush (v := 16) (pc := 80) hx hb dX9_right_80 zk_b16 ?_
    refine lv_idiv (pc := 82) hx hb dX9_right_82 (by decide) ?_
    refine lv_iload (pc := 83) hx hb dX9_right_83 (lv_at hl 6 rfl) ?_
    refine lv_bipush (v := 16) (pc := 85) hx hb dX9_right_85 zk_b16 ?_
    refine lv_irem (pc := 87) hx hb dX9_right_87 (by decide) ?_
    refine lv_iload_n (pc := 88) hx hb dX9_right_88 rfl (lv_at hl 3 rfl) ?_
    obtain ⟨zr2, hzr2, h⟩ := zb h
    refine zcV (pc := 89) (As := [.int x1, .int x2, .int x4, .int x5, .int (x6 / 16), .int (x6 - x6 / 16 * 16), .int x3]) (rest := []) (st1 := [.int zr2]) (ws' := wM cy mq m_hosts m_lost m_late m_wait m_per m_blocks m_sends m_many m_made m_madeMany m_lacking m_thrown m_now m_ahead m_then m_time m_timeThen m_isThere m_comes) (wr := []) (n := 7) (q0 := 0) X (c_X9_due l G cy fu mq m_hosts m_lost m_late m_wait m_per m_blocks m_sends m_many m_made m_madeMany m_lacking m_thrown m_now m_ahead m_then m_time m_timeThen m_isThere m_comes x1 x2 x4 x5 (x6 / 16) (x6 - x6 / 16 * 16) x3 zr2 hzr2) hH [0, 1, 2, 3, 4, 5, 6, 7, 8, 9, 10, 11, 12, 13, 14] [] [0, 1, 2, 3, 4, 5, 6, 7, 8, 9, 10, 11, 12, 13, 14] rfl rfl rfl rfl gX9_right_X9_due rfl ⟨rfl, rfl⟩ kX9_due ⟨Nat.le_of_ble_eq_true rfl, Nat.le_of_ble_eq_true rfl⟩ rfl rfl rfl rfl rfl hl.1 (Nat.le_of_ble_eq_true rfl) ⟨Nat.le_of_ble_eq_true rfl, Nat.le_of_ble_eq_true rfl⟩ dX9_right_89 (fun H locs hH => ?_)
    refine lv_istore (pc := 92) (lv' := [(7, .int zr2), (0, .ref (mq 0)), (1, .int x1), (2, .int x2), (3, .int x3), (4, .int x4), (5, .int x5), (6, .int x6)]) hx hb dX9_right_92 hl (by decide) rfl (fun ls hl => ?_)
    refine lv_iload (pc := 94) hx hb dX9_right_94 (lv_at hl 0 rfl) ?_
    refine lv_iconst (v := (-1)) (pc := 96) hx hb dX9_right_96 zk_cm1 ?_
    refine lv_icmp_eq (pc := 97) (tgt := 136) hx hb dX9_right_97 rfl (fun zc3 => ?_) (fun zc3 => ?_)
    · have h := zt zc3 h
      refine lv_iinc (pc := 136) (v := (x6 + 1)) (lv' := [(6, .int (x6 + 1)), (7, .int zr2), (0, .ref (mq 0)), (1, .int x1), (2, .int x2), (3, .int x3), (4, .int x4), (5, .int x5)]) hx hb dX9_right_136 hl (k := 7) rfl (by rw [zk_c1]) (by decide) rfl (fun ls hl => ?_)
      refine lv_goto (pc := 139) (tgt := 63) hx hb dX9_right_139 rfl ?_
      exact ih (x6 + 1) rr h _ _ _ hH (lv_sub hl [2, 3, 4, 5, 6, 7, 0] rfl) K0 K1
    have h := zf zc3 h
    refine lv_aload_n (pc := 100) hx hb dX9_right_100 rfl (lv_at hl 1 rfl) ?_
    refine z_get (pc := 101) (v := .ref (mq 8)) X iX9_right_X9 hH 0 rfl rfl 12 rfl (List.mem_of_getElem? (i := 4) rfl) rfl dX9_right_101 ?_
    refine lv_sipush (v := 256) (pc := 104) hx hb dX9_right_104 zk_s256 ?_
    refine lv_bipush (v := 16) (pc := 107) hx hb dX9_right_107 zk_b16 ?_
    refine lv_iload (pc := 109) hx hb dX9_right_109 (lv_at hl 5 rfl) ?_
    refine lv_imul (pc := 111) hx hb dX9_right_111 ?_
    refine lv_iload (pc := 112) hx hb dX9_right_112 (lv_at hl 6 rfl) ?_
    refine lv_iadd (pc := 114) hx hb dX9_right_114 ?_
    refine lv_imul (pc := 115) hx hb dX9_right_115 ?_
    refine lv_iload (pc := 116) hx hb dX9_right_116 (lv_at hl 7 rfl) ?_
    refine lv_iadd (pc := 118) hx hb dX9_right_118 ?_
    obtain ⟨hin, h⟩ := zg h
    refine z_bald (pc := 119) X hH 8 rfl hin dX9_right_119 ?_
    refine lv_iload (pc := 120) hx hb dX9_right_120 (lv_at hl 0 rfl) ?_
    refine lv_icmp_eq (pc := 122) (tgt := 136) hx hb dX9_right_122 rfl (fun zc4 => ?_) (fun zc4 => ?_)
    · have h := zt zc4 h
      refine lv_iinc (pc := 136) (v := (x6 + 1)) (lv' := [(6, .int (x6 + 1)), (7, .int zr2), (0, .ref (mq 0)), (1, .int x1), (2, .int x2), (3, .int x3), (4, .int x4), (5, .int x5)]) hx hb dX9_right_136 hl (k := 7) rfl (by rw [zk_c1]) (by decide) rfl (fun ls hl => ?_)
      refine lv_goto (pc := 139) (tgt := 63) hx hb dX9_right_139 rfl ?_
      exact ih (x6 + 1) rr h _ _ _ hH (lv_sub hl [2, 3, 4, 5, 6, 7, 0] rfl) K0 K1
    have h := zf zc4 h
    exact K0 () (Option.some.inj h).symm _ _ _ hH (lv_sub hl [5, 6] rfl)
set_option maxHeartbeats 4000000 in
set_option maxRecDepth 100000 in
theorem w_X9_right_l53 {p : Program} {l : Launch} {e : Env} {s : State} {m : MethodId} {args : Array Value} {below : List Frame} {meth : Method} {c : Code} {A : Nat → Prop} {Q : State → Prop} (G : va_G) (cy : Nat → ClassId) (fu : Nat) (mq : Nat → Nat) (m_hosts : Int32) (m_lost : Nat → Int32) (m_late : Nat → Int32) (m_wait : Nat → Int32) (m_per : Nat → Int32) (m_blocks : Nat → Int32) (m_sends : Nat → Int32) (m_many : Int32) (m_made : Nat → Int32) (m_madeMany : Int32) (m_lacking : Int32) (m_thrown : Int32) (m_now : Nat → Int32) (m_ahead : Nat → Int32) (m_then : Nat → Int32) (m_time : Nat → Int32) (m_timeThen : Nat → Int32) (m_isThere : Nat → Int32) (m_comes : Nat → Int32) (x1 : Int32) (x2 : Int32) (x3 : Int32) (x4 : Int32) (X : zX p s m args meth c RX9 cX9_right 8 wsX9_right G cy A) : ∀ (n : Nat) (x5 : Int32) (rr : (Int32) ⊕ (Unit)) (h : lp (f_X9_right_l53 fu m_hosts m_lost m_now x1 x2 x3 x4) n x5 = some rr) (H : Heap) (locs : List Loc) (ls : Array Slot) (hH : zH G A s.heap (wM cy mq m_hosts m_lost m_late m_wait m_per m_blocks m_sends m_many m_made m_madeMany m_lacking m_thrown m_now m_ahead m_then m_time m_timeThen m_isThere m_comes) H locs) (hl : lv_has ls 8 [(0, .ref (mq 0)), (1, .int x1), (2, .int x2), (3, .int x3), (4, .int x4), (5, .int x5)]) (K0 : ∀ (ra : Int32), rr = (.inl ra) → ∀ (H : Heap) (locs : List Loc) (ls : Array Slot), zH G A s.heap (wM cy mq m_hosts m_lost m_late m_wait m_per m_blocks m_sends m_many m_made m_madeMany m_lacking m_thrown m_now m_ahead m_then m_time m_timeThen m_isThere m_comes) H locs → lv_has ls 8 [(4, .int x4), (5, .int ra)] → W p l e (zR 4 91) s m args below meth c H locs 0 0 Q (F0 m 125 ls [])) (K1 : ∀ (ra : Unit), rr = (.inr ra) → ∀ (H : Heap) (locs : List Loc) (ls : Array Slot), zH G A s.heap (wM cy mq m_hosts m_lost m_late m_wait m_per m_blocks m_sends m_many m_made m_madeMany m_lacking m_thrown m_now m_ahead m_then m_time m_timeThen m_isThere m_comes) H locs → lv_has ls 8 [(0, .ref (mq 0)), (1, .int x1), (2, .int x2), (3, .int x3), (4, .int x4)] → W p l e (zR 4 91) s m args below meth c H locs 0 0 Q (F0 m 148 ls [])), W p l e (zR 4 91) s m args below meth c H locs 0 0 Q (F0 m 53 ls []) := by
  have hx := X.1.1
  have hb := X.1.2.1
  intro n
  induction n with
  | zero => intro x5 rr h H locs ls hH hl K0 K1; cases h
  | succ n ih =>
    intro x5 rr h H locs ls hH hl K0 K1
    replace h : f_X9_right_l53 fu m_hosts m_lost m_now x1 x2 x3 x4 (lp (f_X9_right_l53 fu m_hosts m_lost m_now x1 x2 x3 x4) n) x5 = some rr := h
    dsimp only [f_X9_right_l53] at h
    refine lv_iload (pc := 53) hx hb dX9_right_53 (lv_at hl 5 rfl) ?_
    refine lv_bipush (v := 16) (pc := 55) hx hb dX9_right_55 zk_b16 ?_
    refine lv_icmp_ge (pc := 57) (tgt := 148) hx hb dX9_right_57 rfl (fun zc1 => ?_) (fun zc1 => ?_)
    · have h := zt zc1 h
      exact K1 () (Option.some.inj h).symm _ _ _ hH (lv_sub hl [0, 1, 2, 3, 4] rfl)
    have h := zf zc1 h
    refine lv_iconst (v := 0) (pc := 60) hx hb dX9_right_60 zk_c0 ?_
    refine lv_istore (pc := 61) (lv' := [(6, .int 0), (0, .ref (mq 0)), (1, .int x1), (2, .int x2), (3, .int x3), (4, .int x4), (5, .int x5)]) hx hb dX9_right_61 hl (by decide) rfl (fun ls hl => ?_)
    obtain ⟨zr2, hzr2, h⟩ := zb h
    refine w_X9_right_l63 G cy fu mq m_hosts m_lost m_late m_wait m_per m_blocks m_sends m_many m_made m_madeMany m_lacking m_thrown m_now m_ahead m_then m_time m_timeThen m_isThere m_comes x1 x2 x3 x4 x5 X fu 0 zr2 hzr2 _ _ _ hH (lv_sub hl [1, 2, 3, 4, 5, 6, 0] rfl) (fun zr2_0 ezr2_0 H locs ls hH hl => ?_) (fun zr2_1 ezr2_1 H locs ls hH hl => ?_)
    · rw [ezr2_0] at h
      have h := zsum_l h
      exact K0 x5 (Option.some.inj h).symm _ _ _ hH (lv_sub hl [0, 1] rfl)
    rw [ezr2_1] at h
    have h := zsum_r h
    refine lv_iinc (pc := 142) (v := (x5 + 1)) (lv' := [(5, .int (x5 + 1)), (0, .ref (mq 0)), (1, .int x1), (2, .int x2), (3, .int x3), (4, .int x4)]) hx hb dX9_right_142 hl (k := 5) rfl (by rw [zk_c1]) (by decide) rfl (fun ls hl => ?_)
    refine lv_goto (pc := 145) (tgt := 53) hx hb dX9_right_145 rfl ?_
    exact ih (x5 + 1) rr h _ _ _ hH (lv_sub hl [1, 2, 3, 4, 5, 0] rfl) K0 K1
set_option maxHeartbeats 4000000 in
set_option maxRecDepth 100000 in
theorem w_X9_right_l28 {p : Program} {l : Launch} {e : Env} {s : State} {m : MethodId} {args : Array Value} {below : List Frame} {meth : Method} {c : Code} {A : Nat → Prop} {Q : State → Prop} (G : va_G) (cy : Nat → ClassId) (fu : Nat) (mq : Nat → Nat) (m_hosts : Int32) (m_lost : Nat → Int32) (m_late : Nat → Int32) (m_wait : Nat → Int32) (m_per : Nat → Int32) (m_blocks : Nat → Int32) (m_sends : Nat → Int32) (m_many : Int32) (m_made : Nat → Int32) (m_madeMany : Int32) (m_lacking : Int32) (m_thrown : Int32) (m_now : Nat → Int32) (m_ahead : Nat → Int32) (m_then : Nat → Int32) (m_time : Nat → Int32) (m_timeThen : Nat → Int32) (m_isThere : Nat → Int32) (m_comes : Nat → Int32) (x1 : Int32) (x2 : Int32) (x3 : Int32) (X : zX p s m args meth c RX9 cX9_right 8 wsX9_right G cy A) : ∀ (n : Nat) (x4 : Int32) (rr : (Int32 × Int32) ⊕ (Unit)) (h : lp (f_X9_right_l28 fu m_hosts m_lost m_now x1 x2 x3) n x4 = some rr) (H : Heap) (locs : List Loc) (ls : Array Slot) (hH : zH G A s.heap (wM cy mq m_hosts m_lost m_late m_wait m_per m_blocks m_sends m_many m_made m_madeMany m_lacking m_thrown m_now m_ahead m_then m_time m_timeThen m_isThere m_comes) H locs) (hl : lv_has ls 8 [(0, .ref (mq 0)), (1, .int x1), (2, .int x2), (3, .int x3), (4, .int x4)]) (K0 : ∀ (ra : Int32 × Int32), rr = (.inl ra) → ∀ (H : Heap) (locs : List Loc) (ls : Array Slot), zH G A s.heap (wM cy mq m_hosts m_lost m_late m_wait m_per m_blocks m_sends m_many m_made m_madeMany m_lacking m_thrown m_now m_ahead m_then m_time m_timeThen m_isThere m_comes) H locs → lv_has ls 8 [(4, .int ra.1), (5, .int ra.2)] → W p l e (zR 4 91) s m args below meth c H locs 0 0 Q (F0 m 125 ls [])) (K1 : ∀ (ra : Unit), rr = (.inr ra) → ∀ (H : Heap) (locs : List Loc) (ls : Array Slot), zH G A s.heap (wM cy mq m_hosts m_lost m_late m_wait m_per m_blocks m_sends m_many m_made m_madeMany m_lacking m_thrown m_now m_ahead m_then m_time m_timeThen m_isThere m_comes) H locs → lv_has ls 8 [] → W p l e (zR 4 91) s m args below meth c H locs 0 0 Q (F0 m 154 ls [])), W p l e (zR 4 91) s m args below meth c H locs 0 0 Q (F0 m 28 ls []) := by
  have hx := X.1.1
  have hb := X.1.2.1
  intro n
  induction n with
  | zero => intro x4 rr h H locs ls hH hl K0 K1; cases h
  | succ n ih =>
    intro x4 rr h H locs ls hH hl K0 K1
    replace h : f_X9_right_l28 fu m_hosts m_lost m_now x1 x2 x3 (lp (f_X9_right_l28 fu m_hosts m_lost m_now x1 x2 x3) n) x4 = some rr := h
    dsimp only [f_X9_right_l28] at h
    refine lv_iload (pc := 28) hx hb dX9_right_28 (lv_at hl 4 rfl) ?_
    refine lv_aload_n (pc := 30) hx hb dX9_right_30 rfl (lv_at hl 0 rfl) ?_
    refine z_get (pc := 31) (v := .int m_hosts) X iX9_right_X9 hH 0 rfl rfl 0 rfl (List.mem_of_getElem? (i := 2) rfl) rfl dX9_right_31 ?_
    refine lv_icmp_ge (pc := 34) (tgt := 154) hx hb dX9_right_34 rfl (fun zc1 => ?_) (fun zc1 => ?_)
    · have h := zt zc1 h
      exact K1 () (Option.some.inj h).symm _ _ _ hH (lv_sub hl [] rfl)
    have h := zf zc1 h
    refine lv_aload_n (pc := 37) hx hb dX9_right_37 rfl (lv_at hl 0 rfl) ?_
    refine z_get (pc := 38) (v := .ref (mq 1)) X iX9_right_X9 hH 0 rfl rfl 1 rfl (List.mem_of_getElem? (i := 3) rfl) rfl dX9_right_38 ?_
    refine lv_iload (pc := 41) hx hb dX9_right_41 (lv_at hl 4 rfl) ?_
    obtain ⟨hin, h⟩ := zg h
    refine z_zald (pc := 43) X hH 1 rfl hin dX9_right_43 ?_
    refine lv_if_eq (pc := 44) (tgt := 50) hx hb dX9_right_44 rfl (fun zc2 => ?_) (fun zc2 => ?_)
    · have h := zt zc2 h
      refine lv_iconst (v := 0) (pc := 50) hx hb dX9_right_50 zk_c0 ?_
      refine lv_istore (pc := 51) (lv' := [(5, .int 0), (0, .ref (mq 0)), (1, .int x1), (2, .int x2), (3, .int x3), (4, .int x4)]) hx hb dX9_right_51 hl (by decide) rfl (fun ls hl => ?_)
      obtain ⟨zr3, hzr3, h⟩ := zb h
      refine w_X9_right_l53 G cy fu mq m_hosts m_lost m_late m_wait m_per m_blocks m_sends m_many m_made m_madeMany m_lacking m_thrown m_now m_ahead m_then m_time m_timeThen m_isThere m_comes x1 x2 x3 x4 X fu 0 zr3 hzr3 _ _ _ hH (lv_sub hl [1, 2, 3, 4, 5, 0] rfl) (fun zr3_0 ezr3_0 H locs ls hH hl => ?_) (fun zr3_1 ezr3_1 H locs ls hH hl => ?_)
      · rw [ezr3_0] at h
        have h := zsum_l h
        exact K0 (x4, zr3_0) (Option.some.inj h).symm _ _ _ hH (lv_sub hl [0, 1] rfl)
      rw [ezr3_1] at h
      have h := zsum_r h
      refine lv_iinc (pc := 148) (v := (x4 + 1)) (lv' := [(4, .int (x4 + 1)), (0, .ref (mq 0)), (1, .int x1), (2, .int x2), (3, .int x3)]) hx hb dX9_right_148 hl (k := 4) rfl (by rw [zk_c1]) (by decide) rfl (fun ls hl => ?_)
      refine lv_goto (pc := 151) (tgt := 28) hx hb dX9_right_151 rfl ?_
      exact ih (x4 + 1) rr h _ _ _ hH (lv_sub hl [1, 2, 3, 4, 0] rfl) K0 K1
    have h := zf zc2 h
    refine lv_goto (pc := 47) (tgt := 148) hx hb dX9_right_47 rfl ?_
    refine lv_iinc (pc := 148) (v := (x4 + 1)) (lv' := [(4, .int (x4 + 1)), (0, .ref (mq 0)), (1, .int x1), (2, .int x2), (3, .int x3)]) hx hb dX9_right_148 hl (k := 4) rfl (by rw [zk_c1]) (by decide) rfl (fun ls hl => ?_)
    refine lv_goto (pc := 151) (tgt := 28) hx hb dX9_right_151 rfl ?_
    exact ih (x4 + 1) rr h _ _ _ hH (lv_sub hl [1, 2, 3, 4, 0] rfl) K0 K1
set_option maxHeartbeats 4000000 in
set_option maxRecDepth 100000 in
theorem c_X9_right (l : Launch) (G : va_G) (cy : Nat → ClassId) (fu : Nat) (mq : Nat → Nat) (m_hosts : Int32) (m_lost : Nat → Int32) (m_late : Nat → Int32) (m_wait : Nat → Int32) (m_per : Nat → Int32) (m_blocks : Nat → Int32) (m_sends : Nat → Int32) (m_many : Int32) (m_made : Nat → Int32) (m_madeMany : Int32) (m_lacking : Int32) (m_thrown : Int32) (m_now : Nat → Int32) (m_ahead : Nat → Int32) (m_then : Nat → Int32) (m_time : Nat → Int32) (m_timeThen : Nat → Int32) (m_isThere : Nat → Int32) (m_comes : Nat → Int32) (x1 : Int32) (x2 : Int32) (rr : Int32 × Int32 × (Nat → Int32) × (Nat → Int32)) (h : f_X9_right fu m_hosts m_lost m_sends m_many m_now m_ahead x1 x2 = some rr) : zM l G cy yX9_right wsX9_right (zR 4 91) [.ref (mq 0), .int x1, .int x2] (wM cy mq m_hosts m_lost m_late m_wait m_per m_blocks m_sends m_many m_made m_madeMany m_lacking m_thrown m_now m_ahead m_then m_time m_timeThen m_isThere m_comes) (wM cy mq m_hosts m_lost m_late m_wait m_per m_blocks m_sends m_many m_made m_madeMany m_lacking rr.2.1 rr.2.2.1 rr.2.2.2 m_then m_time m_timeThen m_isThere m_comes) (some (.int rr.1)) := by
  refine zM.mk (cc := cX9_right) (nL := 8) (ret := (some .int)) (by decide) rfl (Nat.le_of_ble_eq_true rfl) ?_
  intro p e s m below meth c A ls X hr hH hl
  replace X : zX p s m [.ref (mq 0), .int x1, .int x2].toArray meth c RX9 cX9_right 8 wsX9_right G cy A := X
  have hx := X.1.1
  have hb := X.1.2.1
  replace hl : lv_has ls 8 [(0, .ref (mq 0)), (1, .int x1), (2, .int x2)] := hl
  dsimp only [f_X9_right] at h
  refine lv_aload_n (pc := 0) hx hb dX9_right_0 rfl (lv_at hl 0 rfl) ?_
  refine lv_iconst (v := 0) (pc := 1) hx hb dX9_right_1 zk_c0 ?_
  refine z_put (pc := 2) (v := .int 0) (ws' := wM cy mq m_hosts m_lost m_late m_wait m_per m_blocks m_sends m_many m_made m_madeMany m_lacking 0 m_now m_ahead m_then m_time m_timeThen m_isThere m_comes) X iX9_right_X9 tyX9 tyX9_ok nmX9 hH 0 rfl rfl 11 rfl (List.mem_of_getElem? (i := 1) rfl) rfl rfl rfl rfl rfl dX9_right_2 (fun H locs hH => ?_)
  refine lv_aload_n (pc := 5) hx hb dX9_right_5 rfl (lv_at hl 0 rfl) ?_
  refine lv_iload_n (pc := 6) hx hb dX9_right_6 rfl (lv_at hl 1 rfl) ?_
  refine lv_iload_n (pc := 7) hx hb dX9_right_7 rfl (lv_at hl 2 rfl) ?_
  obtain ⟨zr1, hzr1, h⟩ := zb h
  refine zcV (pc := 8) (As := [.int x1, .int x2]) (rest := []) (st1 := [.int zr1]) (ws' := wM cy mq m_hosts m_lost m_late m_wait m_per m_blocks m_sends m_many m_made m_madeMany m_lacking 0 m_now m_ahead m_then m_time m_timeThen m_isThere m_comes) (wr := []) (n := 2) (q0 := 0) X (c_X9_isAsk l G cy fu mq m_hosts m_lost m_late m_wait m_per m_blocks m_sends m_many m_made m_madeMany m_lacking 0 m_now m_ahead m_then m_time m_timeThen m_isThere m_comes x1 x2 zr1 hzr1) hH [0, 1, 2, 3, 4, 5, 6, 7, 8, 9, 10, 11, 12, 13, 14] [] [0, 1, 2, 3, 4, 5, 6, 7, 8, 9, 10, 11, 12, 13, 14] rfl rfl rfl rfl gX9_right_X9_isAsk rfl ⟨rfl, rfl⟩ kX9_isAsk ⟨Nat.le_of_ble_eq_true rfl, Nat.le_of_ble_eq_true rfl⟩ rfl rfl rfl rfl rfl hl.1 (Nat.le_of_ble_eq_true rfl) ⟨Nat.le_of_ble_eq_true rfl, Nat.le_of_ble_eq_true rfl⟩ dX9_right_8 (fun H locs hH => ?_)
  refine lv_if_ne (pc := 11) (tgt := 16) hx hb dX9_right_11 rfl (fun zc2 => ?_) (fun zc2 => ?_)
  · have h := zf zc2 h
    refine lv_aload_n (pc := 16) hx hb dX9_right_16 rfl (lv_at hl 0 rfl) ?_
    obtain ⟨zr3, hzr3, h⟩ := zb h
    refine zcV (pc := 17) (As := []) (rest := []) (st1 := []) (ws' := wM cy mq m_hosts m_lost m_late m_wait m_per m_blocks m_sends m_many m_made m_madeMany m_lacking 0 zr3.1 zr3.2 m_then m_time m_timeThen m_isThere m_comes) (wr := []) (n := 0) (q0 := 0) X (c_X9_follow l G cy fu mq m_hosts m_lost m_late m_wait m_per m_blocks m_sends m_many m_made m_madeMany m_lacking 0 m_now m_ahead m_then m_time m_timeThen m_isThere m_comes zr3 hzr3) hH [0, 1, 2, 3, 4, 5, 6, 7, 8, 9, 10, 11, 12, 13, 14] [] [0, 1, 2, 3, 4, 5, 6, 7, 8, 9, 10, 11, 12, 13, 14] rfl rfl rfl rfl gX9_right_X9_follow rfl ⟨rfl, rfl⟩ kX9_follow ⟨Nat.le_of_ble_eq_true rfl, Nat.le_of_ble_eq_true rfl⟩ rfl rfl rfl rfl rfl hl.1 (Nat.le_of_ble_eq_true rfl) ⟨Nat.le_of_ble_eq_true rfl, Nat.le_of_ble_eq_true rfl⟩ dX9_right_17 (fun H locs hH => ?_)
    refine lv_aload_n (pc := 20) hx hb dX9_right_20 rfl (lv_at hl 0 rfl) ?_
    obtain ⟨zr4, hzr4, h⟩ := zb h
    refine zcV (pc := 21) (As := []) (rest := []) (st1 := [.int zr4]) (ws' := wM cy mq m_hosts m_lost m_late m_wait m_per m_blocks m_sends m_many m_made m_madeMany m_lacking 0 zr3.1 zr3.2 m_then m_time m_timeThen m_isThere m_comes) (wr := []) (n := 0) (q0 := 0) X (c_X9_liveMany l G cy fu mq m_hosts m_lost m_late m_wait m_per m_blocks m_sends m_many m_made m_madeMany m_lacking 0 zr3.1 zr3.2 m_then m_time m_timeThen m_isThere m_comes zr4 hzr4) hH [0, 1, 2, 3, 4, 5, 6, 7, 8, 9, 10, 11, 12, 13, 14] [] [0, 1, 2, 3, 4, 5, 6, 7, 8, 9, 10, 11, 12, 13, 14] rfl rfl rfl rfl gX9_right_X9_liveMany rfl ⟨rfl, rfl⟩ kX9_liveMany ⟨Nat.le_of_ble_eq_true rfl, Nat.le_of_ble_eq_true rfl⟩ rfl rfl rfl rfl rfl hl.1 (Nat.le_of_ble_eq_true rfl) ⟨Nat.le_of_ble_eq_true rfl, Nat.le_of_ble_eq_true rfl⟩ dX9_right_21 (fun H locs hH => ?_)
    refine lv_istore_n (pc := 24) (lv' := [(3, .int zr4), (0, .ref (mq 0)), (1, .int x1), (2, .int x2)]) hx hb dX9_right_24 rfl hl (by decide) rfl (fun ls hl => ?_)
    refine lv_iconst (v := 0) (pc := 25) hx hb dX9_right_25 zk_c0 ?_
    refine lv_istore (pc := 26) (lv' := [(4, .int 0), (3, .int zr4), (0, .ref (mq 0)), (1, .int x1), (2, .int x2)]) hx hb dX9_right_26 hl (by decide) rfl (fun ls hl => ?_)
    obtain ⟨zr5, hzr5, h⟩ := zb h
    refine w_X9_right_l28 G cy fu mq m_hosts m_lost m_late m_wait m_per m_blocks m_sends m_many m_made m_madeMany m_lacking 0 zr3.1 zr3.2 m_then m_time m_timeThen m_isThere m_comes x1 x2 zr4 X fu 0 zr5 hzr5 _ _ _ hH (lv_sub hl [2, 3, 4, 1, 0] rfl) (fun zr5_0 ezr5_0 H locs ls hH hl => ?_) (fun zr5_1 ezr5_1 H locs ls hH hl => ?_)
    · rw [ezr5_0] at h
      have h := zsum_l h
      refine lv_bipush (v := (-100)) (pc := 125) hx hb dX9_right_125 zk_bm100 ?_
      refine lv_iload (pc := 127) hx hb dX9_right_127 (lv_at hl 0 rfl) ?_
      refine lv_imul (pc := 129) hx hb dX9_right_129 ?_
      refine lv_iload (pc := 130) hx hb dX9_right_130 (lv_at hl 1 rfl) ?_
      refine lv_isub (pc := 132) hx hb dX9_right_132 ?_
      refine lv_iconst (v := 1) (pc := 133) hx hb dX9_right_133 zk_c1 ?_
      refine lv_isub (pc := 134) hx hb dX9_right_134 ?_
      obtain rfl := Option.some.inj h
      exact z_iret X hr hH dX9_right_135
    rw [ezr5_1] at h
    have h := zsum_r h
    refine lv_iconst (v := 1) (pc := 154) hx hb dX9_right_154 zk_c1 ?_
    obtain rfl := Option.some.inj h
    exact z_iret X hr hH dX9_right_155
  have h := zt zc2 h
  refine lv_iconst (v := 2) (pc := 14) hx hb dX9_right_14 zk_c2 ?_
  obtain rfl := Option.some.inj h
  exact z_iret X hr hH dX9_right_15
set_option maxHeartbeats 4000000 in
set_option maxRecDepth 100000 in
theorem w_X9_run_l27 {p : Program} {l : Launch} {e : Env} {s : State} {m : MethodId} {args : Array Value} {below : List Frame} {meth : Method} {c : Code} {A : Nat → Prop} {Q : State → Prop} (G : va_G) (cy : Nat → ClassId) (fu : Nat) (mq : Nat → Nat) (m_hosts : Int32) (m_lost : Nat → Int32) (m_late : Nat → Int32) (m_wait : Nat → Int32) (m_per : Nat → Int32) (m_blocks : Nat → Int32) (m_sends : Nat → Int32) (m_many : Int32) (m_made : Nat → Int32) (m_madeMany : Int32) (m_lacking : Int32) (m_thrown : Int32) (m_now : Nat → Int32) (m_ahead : Nat → Int32) (m_time : Nat → Int32) (m_timeThen : Nat → Int32) (m_isThere : Nat → Int32) (m_comes : Nat → Int32) (x1 : Int32) (x2 : Int32) (X : zX p s m args meth c RX9 cX9_run 5 wsX9_run G cy A) : ∀ (n : Nat) (x3 : Int32) (m_then : Nat → Int32) (rr : (Nat → Int32)) (h : lp (f_X9_run_l27 fu m_blocks) n (x3, m_then) = some rr) (H : Heap) (locs : List Loc) (ls : Array Slot) (hH : zH G A s.heap (wM cy mq m_hosts m_lost m_late m_wait m_per m_blocks m_sends m_many m_made m_madeMany m_lacking m_thrown m_now m_ahead m_then m_time m_timeThen m_isThere m_comes) H locs) (hl : lv_has ls 5 [(0, .ref (mq 0)), (1, .int x1), (2, .int x2), (3, .int x3)]) (K0 : ∀ (H : Heap) (locs : List Loc) (ls : Array Slot), zH G A s.heap (wM cy mq m_hosts m_lost m_late m_wait m_per m_blocks m_sends m_many m_made m_madeMany m_lacking m_thrown m_now m_ahead rr m_time m_timeThen m_isThere m_comes) H locs → lv_has ls 5 [(0, .ref (mq 0)), (1, .int x1), (2, .int x2)] → W p l e (zR 1 23) s m args below meth c H locs 0 0 Q (F0 m 52 ls [])), W p l e (zR 1 23) s m args below meth c H locs 0 0 Q (F0 m 27 ls []) := by
  have hx := X.1.1
  have hb := X.1.2.1
  intro n
  induction n with
  | zero => intro x3 m_then rr h H locs ls hH hl K0; cases h
  | succ n ih =>
    intro x3 m_then rr h H locs ls hH hl K0
    replace h : f_X9_run_l27 fu m_blocks (lp (f_X9_run_l27 fu m_blocks) n) (x3, m_then) = some rr := h
    dsimp only [f_X9_run_l27] at h
    refine lv_iload_n (pc := 27) hx hb dX9_run_27 rfl (lv_at hl 3 rfl) ?_
    refine lv_sipush (v := 256) (pc := 28) hx hb dX9_run_28 zk_s256 ?_
    refine lv_icmp_ge (pc := 31) (tgt := 52) hx hb dX9_run_31 rfl (fun zc1 => ?_) (fun zc1 => ?_)
    · have h := zt zc1 h
      obtain rfl := Option.some.inj h
      exact K0 _ _ _ hH (lv_sub hl [0, 1, 2] rfl)
    have h := zf zc1 h
    refine lv_aload_n (pc := 34) hx hb dX9_run_34 rfl (lv_at hl 0 rfl) ?_
    refine z_get (pc := 35) (v := .ref (mq 10)) X iX9_run_X9 hH 0 rfl rfl 14 rfl (List.mem_of_getElem? (i := 4) rfl) rfl dX9_run_35 ?_
    refine lv_iload_n (pc := 38) hx hb dX9_run_38 rfl (lv_at hl 3 rfl) ?_
    refine lv_aload_n (pc := 39) hx hb dX9_run_39 rfl (lv_at hl 0 rfl) ?_
    refine z_get (pc := 40) (v := .ref (mq 5)) X iX9_run_X9 hH 0 rfl rfl 5 rfl (List.mem_of_getElem? (i := 5) rfl) rfl dX9_run_40 ?_
    refine lv_iload_n (pc := 43) hx hb dX9_run_43 rfl (lv_at hl 3 rfl) ?_
    obtain ⟨hin, h⟩ := zg h
    refine z_iald (pc := 44) X hH 5 rfl hin dX9_run_44 ?_
    obtain ⟨hin, h⟩ := zg h
    refine z_iast (pc := 45) (ws' := wM cy mq m_hosts m_lost m_late m_wait m_per m_blocks m_sends m_many m_made m_madeMany m_lacking m_thrown m_now m_ahead (upd m_then (x3).toNatClampNeg (m_blocks (x3).toNatClampNeg)) m_time m_timeThen m_isThere m_comes) X hH 10 rfl hin rfl dX9_run_45 (fun H locs hH => ?_)
    refine lv_iinc (pc := 46) (v := (x3 + 1)) (lv' := [(3, .int (x3 + 1)), (0, .ref (mq 0)), (1, .int x1), (2, .int x2)]) hx hb dX9_run_46 hl (k := 3) rfl (by rw [zk_c1]) (by decide) rfl (fun ls hl => ?_)
    refine lv_goto (pc := 49) (tgt := 27) hx hb dX9_run_49 rfl ?_
    exact ih (x3 + 1) (upd m_then (x3).toNatClampNeg (m_blocks (x3).toNatClampNeg)) rr h _ _ _ hH (lv_sub hl [1, 2, 3, 0] rfl) K0
set_option maxHeartbeats 4000000 in
set_option maxRecDepth 100000 in
theorem w_X9_run_l52 {p : Program} {l : Launch} {e : Env} {s : State} {m : MethodId} {args : Array Value} {below : List Frame} {meth : Method} {c : Code} {A : Nat → Prop} {Q : State → Prop} (G : va_G) (cy : Nat → ClassId) (fu : Nat) (mq : Nat → Nat) (m_hosts : Int32) (m_lost : Nat → Int32) (m_late : Nat → Int32) (m_wait : Nat → Int32) (m_per : Nat → Int32) (m_sends : Nat → Int32) (m_many : Int32) (m_made : Nat → Int32) (m_madeMany : Int32) (m_lacking : Int32) (m_thrown : Int32) (m_now : Nat → Int32) (m_ahead : Nat → Int32) (m_then : Nat → Int32) (m_time : Nat → Int32) (m_timeThen : Nat → Int32) (m_isThere : Nat → Int32) (m_comes : Nat → Int32) (x2 : Int32) (X : zX p s m args meth c RX9 cX9_run 5 wsX9_run G cy A) : ∀ (n : Nat) (x1 : Int32) (m_blocks : Nat → Int32) (rr : Int32 × (Nat → Int32)) (h : lp (f_X9_run_l52 fu m_sends m_many m_then x2) n (x1, m_blocks) = some rr) (H : Heap) (locs : List Loc) (ls : Array Slot) (hH : zH G A s.heap (wM cy mq m_hosts m_lost m_late m_wait m_per m_blocks m_sends m_many m_made m_madeMany m_lacking m_thrown m_now m_ahead m_then m_time m_timeThen m_isThere m_comes) H locs) (hl : lv_has ls 5 [(0, .ref (mq 0)), (1, .int x1), (2, .int x2)]) (K0 : ∀ (H : Heap) (locs : List Loc) (ls : Array Slot), zH G A s.heap (wM cy mq m_hosts m_lost m_late m_wait m_per rr.2 m_sends m_many m_made m_madeMany m_lacking m_thrown m_now m_ahead m_then m_time m_timeThen m_isThere m_comes) H locs → lv_has ls 5 [(0, .ref (mq 0)), (1, .int rr.1)] → W p l e (zR 1 23) s m args below meth c H locs 0 0 Q (F0 m 174 ls [])), W p l e (zR 1 23) s m args below meth c H locs 0 0 Q (F0 m 52 ls []) := by
  have hx := X.1.1
  have hb := X.1.2.1
  intro n
  induction n with
  | zero => intro x1 m_blocks rr h H locs ls hH hl K0; cases h
  | succ n ih =>
    intro x1 m_blocks rr h H locs ls hH hl K0
    replace h : f_X9_run_l52 fu m_sends m_many m_then x2 (lp (f_X9_run_l52 fu m_sends m_many m_then x2) n) (x1, m_blocks) = some rr := h
    dsimp only [f_X9_run_l52] at h
    refine lv_iload_n (pc := 52) hx hb dX9_run_52 rfl (lv_at hl 1 rfl) ?_
    refine lv_aload_n (pc := 53) hx hb dX9_run_53 rfl (lv_at hl 0 rfl) ?_
    refine z_get (pc := 54) (v := .int m_many) X iX9_run_X9 hH 0 rfl rfl 7 rfl (List.mem_of_getElem? (i := 2) rfl) rfl dX9_run_54 ?_
    refine lv_icmp_ge (pc := 57) (tgt := 174) hx hb dX9_run_57 rfl (fun zc1 => ?_) (fun zc1 => ?_)
    · have h := zt zc1 h
      obtain rfl := Option.some.inj h
      exact K0 _ _ _ hH (lv_sub hl [0, 1] rfl)
    have h := zf zc1 h
    refine lv_aload_n (pc := 60) hx hb dX9_run_60 rfl (lv_at hl 0 rfl) ?_
    refine z_get (pc := 61) (v := .ref (mq 6)) X iX9_run_X9 hH 0 rfl rfl 6 rfl (List.mem_of_getElem? (i := 3) rfl) rfl dX9_run_61 ?_
    refine lv_bipush (v := 6) (pc := 64) hx hb dX9_run_64 zk_b6 ?_
    refine lv_iload_n (pc := 66) hx hb dX9_run_66 rfl (lv_at hl 1 rfl) ?_
    refine lv_imul (pc := 67) hx hb dX9_run_67 ?_
    obtain ⟨hin, h⟩ := zg h
    refine z_iald (pc := 68) X hH 6 rfl hin dX9_run_68 ?_
    refine lv_iload_n (pc := 69) hx hb dX9_run_69 rfl (lv_at hl 2 rfl) ?_
    refine lv_icmp_ne (pc := 70) (tgt := 174) hx hb dX9_run_70 rfl (fun zc2 => ?_) (fun zc2 => ?_)
    · have h := zf zc2 h
      obtain rfl := Option.some.inj h
      exact K0 _ _ _ hH (lv_sub hl [0, 1] rfl)
    have h := zt zc2 h
    refine lv_bipush (v := 16) (pc := 73) hx hb dX9_run_73 zk_b16 ?_
    refine lv_aload_n (pc := 75) hx hb dX9_run_75 rfl (lv_at hl 0 rfl) ?_
    refine z_get (pc := 76) (v := .ref (mq 6)) X iX9_run_X9 hH 0 rfl rfl 6 rfl (List.mem_of_getElem? (i := 3) rfl) rfl dX9_run_76 ?_
    refine lv_bipush (v := 6) (pc := 79) hx hb dX9_run_79 zk_b6 ?_
    refine lv_iload_n (pc := 81) hx hb dX9_run_81 rfl (lv_at hl 1 rfl) ?_
    refine lv_imul (pc := 82) hx hb dX9_run_82 ?_
    refine lv_iconst (v := 2) (pc := 83) hx hb dX9_run_83 zk_c2 ?_
    refine lv_iadd (pc := 84) hx hb dX9_run_84 ?_
    obtain ⟨hin, h⟩ := zg h
    refine z_iald (pc := 85) X hH 6 rfl hin dX9_run_85 ?_
    refine lv_imul (pc := 86) hx hb dX9_run_86 ?_
    refine lv_aload_n (pc := 87) hx hb dX9_run_87 rfl (lv_at hl 0 rfl) ?_
    refine z_get (pc := 88) (v := .ref (mq 6)) X iX9_run_X9 hH 0 rfl rfl 6 rfl (List.mem_of_getElem? (i := 3) rfl) rfl dX9_run_88 ?_
    refine lv_bipush (v := 6) (pc := 91) hx hb dX9_run_91 zk_b6 ?_
    refine lv_iload_n (pc := 93) hx hb dX9_run_93 rfl (lv_at hl 1 rfl) ?_
    refine lv_imul (pc := 94) hx hb dX9_run_94 ?_
    refine lv_iconst (v := 4) (pc := 95) hx hb dX9_run_95 zk_c4 ?_
    refine lv_iadd (pc := 96) hx hb dX9_run_96 ?_
    obtain ⟨hin, h⟩ := zg h
    refine z_iald (pc := 97) X hH 6 rfl hin dX9_run_97 ?_
    refine lv_iadd (pc := 98) hx hb dX9_run_98 ?_
    refine lv_topi (fun za3 eza3 => ?_)
    have h := vn_s h za3 eza3
    refine lv_istore_n (pc := 99) (lv' := [(3, .int za3), (0, .ref (mq 0)), (1, .int x1), (2, .int x2)]) hx hb dX9_run_99 rfl hl (by decide) rfl (fun ls hl => ?_)
    refine lv_aload_n (pc := 100) hx hb dX9_run_100 rfl (lv_at hl 1 rfl) ?_
    refine z_get (pc := 101) (v := .ref (mq 10)) X iX9_run_X9 hH 0 rfl rfl 14 rfl (List.mem_of_getElem? (i := 4) rfl) rfl dX9_run_101 ?_
    refine lv_bipush (v := 16) (pc := 104) hx hb dX9_run_104 zk_b16 ?_
    refine lv_aload_n (pc := 106) hx hb dX9_run_106 rfl (lv_at hl 1 rfl) ?_
    refine z_get (pc := 107) (v := .ref (mq 6)) X iX9_run_X9 hH 0 rfl rfl 6 rfl (List.mem_of_getElem? (i := 3) rfl) rfl dX9_run_107 ?_
    refine lv_bipush (v := 6) (pc := 110) hx hb dX9_run_110 zk_b6 ?_
    refine lv_iload_n (pc := 112) hx hb dX9_run_112 rfl (lv_at hl 2 rfl) ?_
    refine lv_imul (pc := 113) hx hb dX9_run_113 ?_
    refine lv_iconst (v := 1) (pc := 114) hx hb dX9_run_114 zk_c1 ?_
    refine lv_iadd (pc := 115) hx hb dX9_run_115 ?_
    obtain ⟨hin, h⟩ := zg h
    refine z_iald (pc := 116) X hH 6 rfl hin dX9_run_116 ?_
    refine lv_imul (pc := 117) hx hb dX9_run_117 ?_
    refine lv_aload_n (pc := 118) hx hb dX9_run_118 rfl (lv_at hl 1 rfl) ?_
    refine z_get (pc := 119) (v := .ref (mq 6)) X iX9_run_X9 hH 0 rfl rfl 6 rfl (List.mem_of_getElem? (i := 3) rfl) rfl dX9_run_119 ?_
    refine lv_bipush (v := 6) (pc := 122) hx hb dX9_run_122 zk_b6 ?_
    refine lv_iload_n (pc := 124) hx hb dX9_run_124 rfl (lv_at hl 2 rfl) ?_
    refine lv_imul (pc := 125) hx hb dX9_run_125 ?_
    refine lv_iconst (v := 3) (pc := 126) hx hb dX9_run_126 zk_c3 ?_
    refine lv_iadd (pc := 127) hx hb dX9_run_127 ?_
    obtain ⟨hin, h⟩ := zg h
    refine z_iald (pc := 128) X hH 6 rfl hin dX9_run_128 ?_
    refine lv_iadd (pc := 129) hx hb dX9_run_129 ?_
    obtain ⟨hin, h⟩ := zg h
    refine z_iald (pc := 130) X hH 10 rfl hin dX9_run_130 ?_
    refine lv_topi (fun za4 eza4 => ?_)
    have h := vn_s h za4 eza4
    refine lv_istore (pc := 131) (lv' := [(4, .int za4), (3, .int za3), (0, .ref (mq 0)), (1, .int x1), (2, .int x2)]) hx hb dX9_run_131 hl (by decide) rfl (fun ls hl => ?_)
    refine lv_aload_n (pc := 133) hx hb dX9_run_133 rfl (lv_at hl 2 rfl) ?_
    refine z_get (pc := 134) (v := .ref (mq 5)) X iX9_run_X9 hH 0 rfl rfl 5 rfl (List.mem_of_getElem? (i := 5) rfl) rfl dX9_run_134 ?_
    refine lv_iload_n (pc := 137) hx hb dX9_run_137 rfl (lv_at hl 1 rfl) ?_
    refine lv_aload_n (pc := 138) hx hb dX9_run_138 rfl (lv_at hl 2 rfl) ?_
    refine z_get (pc := 139) (v := .ref (mq 6)) X iX9_run_X9 hH 0 rfl rfl 6 rfl (List.mem_of_getElem? (i := 3) rfl) rfl dX9_run_139 ?_
    refine lv_bipush (v := 6) (pc := 142) hx hb dX9_run_142 zk_b6 ?_
    refine lv_iload_n (pc := 144) hx hb dX9_run_144 rfl (lv_at hl 3 rfl) ?_
    refine lv_imul (pc := 145) hx hb dX9_run_145 ?_
    refine lv_iconst (v := 5) (pc := 146) hx hb dX9_run_146 zk_c5 ?_
    refine lv_iadd (pc := 147) hx hb dX9_run_147 ?_
    obtain ⟨hin, h⟩ := zg h
    refine z_iald (pc := 148) X hH 6 rfl hin dX9_run_148 ?_
    refine lv_iconst (v := 1) (pc := 149) hx hb dX9_run_149 zk_c1 ?_
    refine lv_icmp_ne (pc := 150) (tgt := 165) hx hb dX9_run_150 rfl (fun zc5 => ?_) (fun zc5 => ?_)
    · have h := zf zc5 h
      refine lv_iload (pc := 165) hx hb dX9_run_165 (lv_at hl 0 rfl) ?_
      obtain ⟨hin, h⟩ := zg h
      refine z_iast (pc := 167) (ws' := wM cy mq m_hosts m_lost m_late m_wait m_per (upd m_blocks (za3).toNatClampNeg za4) m_sends m_many m_made m_madeMany m_lacking m_thrown m_now m_ahead m_then m_time m_timeThen m_isThere m_comes) X hH 5 rfl hin rfl dX9_run_167 (fun H locs hH => ?_)
      refine lv_iinc (pc := 168) (v := (x1 + 1)) (lv' := [(1, .int (x1 + 1)), (4, .int za4), (3, .int za3), (0, .ref (mq 0)), (2, .int x2)]) hx hb dX9_run_168 hl (k := 3) rfl (by rw [zk_c1]) (by decide) rfl (fun ls hl => ?_)
      refine lv_goto (pc := 171) (tgt := 52) hx hb dX9_run_171 rfl ?_
      exact ih (x1 + 1) (upd m_blocks (za3).toNatClampNeg za4) rr h _ _ _ hH (lv_sub hl [3, 0, 4] rfl) K0
    have h := zt zc5 h
    refine lv_aload_n (pc := 153) hx hb dX9_run_153 rfl (lv_at hl 2 rfl) ?_
    refine z_get (pc := 154) (v := .ref (mq 10)) X iX9_run_X9 hH 0 rfl rfl 14 rfl (List.mem_of_getElem? (i := 4) rfl) rfl dX9_run_154 ?_
    refine lv_iload_n (pc := 157) hx hb dX9_run_157 rfl (lv_at hl 1 rfl) ?_
    obtain ⟨hin, h⟩ := zg h
    refine z_iald (pc := 158) X hH 10 rfl hin dX9_run_158 ?_
    refine lv_iload (pc := 159) hx hb dX9_run_159 (lv_at hl 0 rfl) ?_
    refine lv_iadd (pc := 161) hx hb dX9_run_161 ?_
    refine lv_goto (pc := 162) (tgt := 167) hx hb dX9_run_162 rfl ?_
    obtain ⟨hin, h⟩ := zg h
    refine z_iast (pc := 167) (ws' := wM cy mq m_hosts m_lost m_late m_wait m_per (upd m_blocks (za3).toNatClampNeg ((m_then (za3).toNatClampNeg) + za4)) m_sends m_many m_made m_madeMany m_lacking m_thrown m_now m_ahead m_then m_time m_timeThen m_isThere m_comes) X hH 5 rfl hin rfl dX9_run_167 (fun H locs hH => ?_)
    refine lv_iinc (pc := 168) (v := (x1 + 1)) (lv' := [(1, .int (x1 + 1)), (4, .int za4), (3, .int za3), (0, .ref (mq 0)), (2, .int x2)]) hx hb dX9_run_168 hl (k := 3) rfl (by rw [zk_c1]) (by decide) rfl (fun ls hl => ?_)
    refine lv_goto (pc := 171) (tgt := 52) hx hb dX9_run_171 rfl ?_
    exact ih (x1 + 1) (upd m_blocks (za3).toNatClampNeg ((m_then (za3).toNatClampNeg) + za4)) rr h _ _ _ hH (lv_sub hl [3, 0, 4] rfl) K0
set_option maxHeartbeats 4000000 in
set_option maxRecDepth 100000 in
theorem w_X9_run_l7 {p : Program} {l : Launch} {e : Env} {s : State} {m : MethodId} {args : Array Value} {below : List Frame} {meth : Method} {c : Code} {A : Nat → Prop} {Q : State → Prop} (G : va_G) (cy : Nat → ClassId) (fu : Nat) (mq : Nat → Nat) (m_hosts : Int32) (m_lost : Nat → Int32) (m_late : Nat → Int32) (m_wait : Nat → Int32) (m_per : Nat → Int32) (m_sends : Nat → Int32) (m_many : Int32) (m_made : Nat → Int32) (m_madeMany : Int32) (m_lacking : Int32) (m_thrown : Int32) (m_now : Nat → Int32) (m_ahead : Nat → Int32) (m_time : Nat → Int32) (m_timeThen : Nat → Int32) (m_isThere : Nat → Int32) (m_comes : Nat → Int32) (X : zX p s m args meth c RX9 cX9_run 5 wsX9_run G cy A) : ∀ (n : Nat) (x1 : Int32) (m_blocks : Nat → Int32) (m_then : Nat → Int32) (rr : (Nat → Int32) × (Nat → Int32)) (h : lp (f_X9_run_l7 fu m_sends m_many) n (x1, m_blocks, m_then) = some rr) (H : Heap) (locs : List Loc) (ls : Array Slot) (hH : zH G A s.heap (wM cy mq m_hosts m_lost m_late m_wait m_per m_blocks m_sends m_many m_made m_madeMany m_lacking m_thrown m_now m_ahead m_then m_time m_timeThen m_isThere m_comes) H locs) (hl : lv_has ls 5 [(0, .ref (mq 0)), (1, .int x1)]) (K0 : ∀ (H : Heap) (locs : List Loc) (ls : Array Slot), zH G A s.heap (wM cy mq m_hosts m_lost m_late m_wait m_per rr.1 m_sends m_many m_made m_madeMany m_lacking m_thrown m_now m_ahead rr.2 m_time m_timeThen m_isThere m_comes) H locs → lv_has ls 5 [(0, .ref (mq 0))] → W p l e (zR 1 23) s m args below meth c H locs 0 0 Q (F0 m 177 ls [])), W p l e (zR 1 23) s m args below meth c H locs 0 0 Q (F0 m 7 ls []) := by
  have hx := X.1.1
  have hb := X.1.2.1
  intro n
  induction n with
  | zero => intro x1 m_blocks m_then rr h H locs ls hH hl K0; cases h
  | succ n ih =>
    intro x1 m_blocks m_then rr h H locs ls hH hl K0
    replace h : f_X9_run_l7 fu m_sends m_many (lp (f_X9_run_l7 fu m_sends m_many) n) (x1, m_blocks, m_then) = some rr := h
    dsimp only [f_X9_run_l7] at h
    refine lv_iload_n (pc := 7) hx hb dX9_run_7 rfl (lv_at hl 1 rfl) ?_
    refine lv_aload_n (pc := 8) hx hb dX9_run_8 rfl (lv_at hl 0 rfl) ?_
    refine z_get (pc := 9) (v := .int m_many) X iX9_run_X9 hH 0 rfl rfl 7 rfl (List.mem_of_getElem? (i := 2) rfl) rfl dX9_run_9 ?_
    refine lv_icmp_ge (pc := 12) (tgt := 177) hx hb dX9_run_12 rfl (fun zc1 => ?_) (fun zc1 => ?_)
    · have h := zt zc1 h
      obtain rfl := Option.some.inj h
      exact K0 _ _ _ hH (lv_sub hl [0] rfl)
    have h := zf zc1 h
    refine lv_aload_n (pc := 15) hx hb dX9_run_15 rfl (lv_at hl 0 rfl) ?_
    refine z_get (pc := 16) (v := .ref (mq 6)) X iX9_run_X9 hH 0 rfl rfl 6 rfl (List.mem_of_getElem? (i := 3) rfl) rfl dX9_run_16 ?_
    refine lv_bipush (v := 6) (pc := 19) hx hb dX9_run_19 zk_b6 ?_
    refine lv_iload_n (pc := 21) hx hb dX9_run_21 rfl (lv_at hl 1 rfl) ?_
    refine lv_imul (pc := 22) hx hb dX9_run_22 ?_
    obtain ⟨hin, h⟩ := zg h
    refine z_iald (pc := 23) X hH 6 rfl hin dX9_run_23 ?_
    refine lv_topi (fun za2 eza2 => ?_)
    have h := vn_s h za2 eza2
    refine lv_istore_n (pc := 24) (lv' := [(2, .int za2), (0, .ref (mq 0)), (1, .int x1)]) hx hb dX9_run_24 rfl hl (by decide) rfl (fun ls hl => ?_)
    refine lv_iconst (v := 0) (pc := 25) hx hb dX9_run_25 zk_c0 ?_
    refine lv_istore_n (pc := 26) (lv' := [(3, .int 0), (2, .int za2), (0, .ref (mq 0)), (1, .int x1)]) hx hb dX9_run_26 rfl hl (by decide) rfl (fun ls hl => ?_)
    obtain ⟨zr3, hzr3, h⟩ := zb h
    refine w_X9_run_l27 G cy fu mq m_hosts m_lost m_late m_wait m_per m_blocks m_sends m_many m_made m_madeMany m_lacking m_thrown m_now m_ahead m_time m_timeThen m_isThere m_comes x1 za2 X fu 0 m_then zr3 hzr3 _ _ _ hH (lv_sub hl [2, 3, 1, 0] rfl) (fun H locs ls hH hl => ?_)
    obtain ⟨zr4, hzr4, h⟩ := zb h
    refine w_X9_run_l52 G cy fu mq m_hosts m_lost m_late m_wait m_per m_sends m_many m_made m_madeMany m_lacking m_thrown m_now m_ahead zr3 m_time m_timeThen m_isThere m_comes za2 X fu x1 m_blocks zr4 hzr4 _ _ _ hH (lv_sub hl [0, 1, 2] rfl) (fun H locs ls hH hl => ?_)
    refine lv_goto (pc := 174) (tgt := 7) hx hb dX9_run_174 rfl ?_
    exact ih zr4.1 zr4.2 zr3 rr h _ _ _ hH (lv_sub hl [0, 1] rfl) K0
set_option maxHeartbeats 4000000 in
set_option maxRecDepth 100000 in
theorem c_X9_run (l : Launch) (G : va_G) (cy : Nat → ClassId) (fu : Nat) (mq : Nat → Nat) (m_hosts : Int32) (m_lost : Nat → Int32) (m_late : Nat → Int32) (m_wait : Nat → Int32) (m_per : Nat → Int32) (m_blocks : Nat → Int32) (m_sends : Nat → Int32) (m_many : Int32) (m_made : Nat → Int32) (m_madeMany : Int32) (m_lacking : Int32) (m_thrown : Int32) (m_now : Nat → Int32) (m_ahead : Nat → Int32) (m_then : Nat → Int32) (m_time : Nat → Int32) (m_timeThen : Nat → Int32) (m_isThere : Nat → Int32) (m_comes : Nat → Int32)  (rr : Int32 × (Nat → Int32) × Int32 × (Nat → Int32)) (h : f_X9_run fu m_blocks m_sends m_many m_then = some rr) : zM l G cy yX9_run wsX9_run (zR 1 23) [.ref (mq 0)] (wM cy mq m_hosts m_lost m_late m_wait m_per m_blocks m_sends m_many m_made m_madeMany m_lacking m_thrown m_now m_ahead m_then m_time m_timeThen m_isThere m_comes) (wM cy mq m_hosts m_lost m_late m_wait m_per rr.2.1 m_sends m_many m_made m_madeMany m_lacking rr.2.2.1 m_now m_ahead rr.2.2.2 m_time m_timeThen m_isThere m_comes) (some (.int rr.1)) := by
  refine zM.mk (cc := cX9_run) (nL := 5) (ret := (some .int)) (by decide) rfl (Nat.le_of_ble_eq_true rfl) ?_
  intro p e s m below meth c A ls X hr hH hl
  replace X : zX p s m [.ref (mq 0)].toArray meth c RX9 cX9_run 5 wsX9_run G cy A := X
  have hx := X.1.1
  have hb := X.1.2.1
  replace hl : lv_has ls 5 [(0, .ref (mq 0))] := hl
  dsimp only [f_X9_run] at h
  refine lv_aload_n (pc := 0) hx hb dX9_run_0 rfl (lv_at hl 0 rfl) ?_
  refine lv_iconst (v := 0) (pc := 1) hx hb dX9_run_1 zk_c0 ?_
  refine z_put (pc := 2) (v := .int 0) (ws' := wM cy mq m_hosts m_lost m_late m_wait m_per m_blocks m_sends m_many m_made m_madeMany m_lacking 0 m_now m_ahead m_then m_time m_timeThen m_isThere m_comes) X iX9_run_X9 tyX9 tyX9_ok nmX9 hH 0 rfl rfl 11 rfl (List.mem_of_getElem? (i := 1) rfl) rfl rfl rfl rfl rfl dX9_run_2 (fun H locs hH => ?_)
  refine lv_iconst (v := 0) (pc := 5) hx hb dX9_run_5 zk_c0 ?_
  refine lv_istore_n (pc := 6) (lv' := [(1, .int 0), (0, .ref (mq 0))]) hx hb dX9_run_6 rfl hl (by decide) rfl (fun ls hl => ?_)
  obtain ⟨zr1, hzr1, h⟩ := zb h
  refine w_X9_run_l7 G cy fu mq m_hosts m_lost m_late m_wait m_per m_sends m_many m_made m_madeMany m_lacking 0 m_now m_ahead m_time m_timeThen m_isThere m_comes X fu 0 m_blocks m_then zr1 hzr1 _ _ _ hH (lv_sub hl [1, 0] rfl) (fun H locs ls hH hl => ?_)
  refine lv_aload_n (pc := 177) hx hb dX9_run_177 rfl (lv_at hl 0 rfl) ?_
  refine z_get (pc := 178) (v := .ref (mq 6)) X iX9_run_X9 hH 0 rfl rfl 6 rfl (List.mem_of_getElem? (i := 3) rfl) rfl dX9_run_178 ?_
  refine lv_aload_n (pc := 181) hx hb dX9_run_181 rfl (lv_at hl 0 rfl) ?_
  refine z_get (pc := 182) (v := .int m_many) X iX9_run_X9 hH 0 rfl rfl 7 rfl (List.mem_of_getElem? (i := 2) rfl) rfl dX9_run_182 ?_
  obtain ⟨zr2, hzr2, h⟩ := zb h
  refine zcS (pc := 185) (As := [.ref (mq 6), .int m_many]) (rest := []) (st1 := [.int zr2]) (ws' := wM cy mq m_hosts m_lost m_late m_wait m_per zr1.1 m_sends m_many m_made m_madeMany m_lacking 0 m_now m_ahead zr1.2 m_time m_timeThen m_isThere m_comes) (wr := [((mq 0), .inr (8, [.int m_hosts, .ref (mq 1), .ref (mq 2), .ref (mq 3), .ref (mq 4), .ref (mq 5), .ref (mq 6), .int m_many, .ref (mq 7), .int m_madeMany, .int m_lacking, .int 0, .ref (mq 8), .ref (mq 9), .ref (mq 10), .ref (mq 11), .ref (mq 12), .ref (mq 13), .ref (mq 14)])), ((mq 1), .inl (cy 2, 16, .inl m_lost)), ((mq 2), .inl (cy 0, 16, .inl m_late)), ((mq 3), .inl (cy 0, 256, .inl m_wait)), ((mq 4), .inl (cy 0, 256, .inl m_per)), ((mq 5), .inl (cy 0, 256, .inl zr1.1)), ((mq 7), .inl (cy 0, 7200, .inl m_made)), ((mq 8), .inl (cy 3, 65536, .inl m_now)), ((mq 9), .inl (cy 3, 65536, .inl m_ahead)), ((mq 10), .inl (cy 0, 256, .inl zr1.2)), ((mq 11), .inl (cy 0, 16, .inl m_time)), ((mq 12), .inl (cy 0, 16, .inl m_timeThen)), ((mq 13), .inl (cy 2, 256, .inl m_isThere)), ((mq 14), .inl (cy 2, 256, .inl m_comes))]) (n := 2) X (c_X9_stepsOf l G cy fu (mq 6) m_sends m_many zr2 hzr2) hH [6] [0, 1, 2, 3, 4, 5, 7, 8, 9, 10, 11, 12, 13, 14] [0, 1, 2, 3, 4, 5, 14, 6, 7, 8, 9, 10, 11, 12, 13] rfl rfl rfl rfl gX9_run_X9_stepsOf rfl ⟨rfl, rfl⟩ kX9_stepsOf ⟨Nat.le_of_ble_eq_true rfl, Nat.le_of_ble_eq_true rfl⟩ rfl rfl rfl hl.1 (Nat.le_of_ble_eq_true rfl) ⟨Nat.le_of_ble_eq_true rfl, Nat.le_of_ble_eq_true rfl⟩ dX9_run_185 (fun H locs hH => ?_)
  obtain rfl := Option.some.inj h
  exact z_iret X hr hH dX9_run_188
set_option maxHeartbeats 4000000 in
set_option maxRecDepth 100000 in
theorem c_X9_timeOf_s (l : Launch) (G : va_G) (cy : Nat → ClassId) (fu : Nat) (mq : Nat → Nat) (v_row : Nat → Int32) (m_hosts : Int32) (m_lost : Nat → Int32) (m_late : Nat → Int32) (m_wait : Nat → Int32) (m_per : Nat → Int32) (m_blocks : Nat → Int32) (m_many : Int32) (m_made : Nat → Int32) (m_madeMany : Int32) (m_lacking : Int32) (m_thrown : Int32) (m_now : Nat → Int32) (m_ahead : Nat → Int32) (m_then : Nat → Int32) (m_time : Nat → Int32) (m_timeThen : Nat → Int32) (m_isThere : Nat → Int32) (m_comes : Nat → Int32) (x2 : Int32) (x3 : Int32) (rr : Int32) (h : f_X9_timeOf fu v_row m_wait m_per x2 x3 = some rr) : zM l G cy yX9_timeOf wsX9_timeOf (zR 1 26) [.ref (mq 0), .ref (mq 6), .int x2, .int x3] (wM cy mq m_hosts m_lost m_late m_wait m_per m_blocks v_row m_many m_made m_madeMany m_lacking m_thrown m_now m_ahead m_then m_time m_timeThen m_isThere m_comes) (wM cy mq m_hosts m_lost m_late m_wait m_per m_blocks v_row m_many m_made m_madeMany m_lacking m_thrown m_now m_ahead m_then m_time m_timeThen m_isThere m_comes) (some (.int rr)) := by
  refine zM.mk (cc := cX9_timeOf) (nL := 5) (ret := (some .int)) (by decide) rfl (Nat.le_of_ble_eq_true rfl) ?_
  intro p e s m below meth c A ls X hr hH hl
  replace X : zX p s m [.ref (mq 0), .ref (mq 6), .int x2, .int x3].toArray meth c RX9 cX9_timeOf 5 wsX9_timeOf G cy A := X
  have hx := X.1.1
  have hb := X.1.2.1
  replace hl : lv_has ls 5 [(0, .ref (mq 0)), (1, .ref (mq 6)), (2, .int x2), (3, .int x3)] := hl
  dsimp only [f_X9_timeOf] at h
  refine lv_bipush (v := 16) (pc := 0) hx hb dX9_timeOf_0 zk_b16 ?_
  refine lv_aload_n (pc := 2) hx hb dX9_timeOf_2 rfl (lv_at hl 1 rfl) ?_
  refine lv_bipush (v := 6) (pc := 3) hx hb dX9_timeOf_3 zk_b6 ?_
  refine lv_iload_n (pc := 5) hx hb dX9_timeOf_5 rfl (lv_at hl 3 rfl) ?_
  refine lv_imul (pc := 6) hx hb dX9_timeOf_6 ?_
  refine lv_iconst (v := 1) (pc := 7) hx hb dX9_timeOf_7 zk_c1 ?_
  refine lv_iadd (pc := 8) hx hb dX9_timeOf_8 ?_
  obtain ⟨hin, h⟩ := zg h
  refine z_iald (pc := 9) X hH 6 rfl hin dX9_timeOf_9 ?_
  refine lv_imul (pc := 10) hx hb dX9_timeOf_10 ?_
  refine lv_aload_n (pc := 11) hx hb dX9_timeOf_11 rfl (lv_at hl 1 rfl) ?_
  refine lv_bipush (v := 6) (pc := 12) hx hb dX9_timeOf_12 zk_b6 ?_
  refine lv_iload_n (pc := 14) hx hb dX9_timeOf_14 rfl (lv_at hl 3 rfl) ?_
  refine lv_imul (pc := 15) hx hb dX9_timeOf_15 ?_
  refine lv_iconst (v := 2) (pc := 16) hx hb dX9_timeOf_16 zk_c2 ?_
  refine lv_iadd (pc := 17) hx hb dX9_timeOf_17 ?_
  obtain ⟨hin, h⟩ := zg h
  refine z_iald (pc := 18) X hH 6 rfl hin dX9_timeOf_18 ?_
  refine lv_iadd (pc := 19) hx hb dX9_timeOf_19 ?_
  refine lv_topi (fun za1 eza1 => ?_)
  have h := vn_s h za1 eza1
  refine lv_istore (pc := 20) (lv' := [(4, .int za1), (0, .ref (mq 0)), (1, .ref (mq 6)), (2, .int x2), (3, .int x3)]) hx hb dX9_timeOf_20 hl (by decide) rfl (fun ls hl => ?_)
  refine lv_aload_n (pc := 22) hx hb dX9_timeOf_22 rfl (lv_at hl 1 rfl) ?_
  refine z_get (pc := 23) (v := .ref (mq 3)) X iX9_timeOf_X9 hH 0 rfl rfl 3 rfl (List.mem_of_getElem? (i := 1) rfl) rfl dX9_timeOf_23 ?_
  refine lv_iload (pc := 26) hx hb dX9_timeOf_26 (lv_at hl 0 rfl) ?_
  obtain ⟨hin, h⟩ := zg h
  refine z_iald (pc := 28) X hH 3 rfl hin dX9_timeOf_28 ?_
  refine lv_aload_n (pc := 29) hx hb dX9_timeOf_29 rfl (lv_at hl 2 rfl) ?_
  refine lv_iload_n (pc := 30) hx hb dX9_timeOf_30 rfl (lv_at hl 3 rfl) ?_
  refine lv_aload_n (pc := 31) hx hb dX9_timeOf_31 rfl (lv_at hl 2 rfl) ?_
  refine lv_bipush (v := 6) (pc := 32) hx hb dX9_timeOf_32 zk_b6 ?_
  refine lv_iload_n (pc := 34) hx hb dX9_timeOf_34 rfl (lv_at hl 4 rfl) ?_
  refine lv_imul (pc := 35) hx hb dX9_timeOf_35 ?_
  obtain ⟨hin, h⟩ := zg h
  refine z_iald (pc := 36) X hH 6 rfl hin dX9_timeOf_36 ?_
  refine lv_aload_n (pc := 37) hx hb dX9_timeOf_37 rfl (lv_at hl 2 rfl) ?_
  refine lv_bipush (v := 6) (pc := 38) hx hb dX9_timeOf_38 zk_b6 ?_
  refine lv_iload_n (pc := 40) hx hb dX9_timeOf_40 rfl (lv_at hl 4 rfl) ?_
  refine lv_imul (pc := 41) hx hb dX9_timeOf_41 ?_
  refine lv_iconst (v := 1) (pc := 42) hx hb dX9_timeOf_42 zk_c1 ?_
  refine lv_iadd (pc := 43) hx hb dX9_timeOf_43 ?_
  obtain ⟨hin, h⟩ := zg h
  refine z_iald (pc := 44) X hH 6 rfl hin dX9_timeOf_44 ?_
  refine lv_aload_n (pc := 45) hx hb dX9_timeOf_45 rfl (lv_at hl 2 rfl) ?_
  refine lv_bipush (v := 6) (pc := 46) hx hb dX9_timeOf_46 zk_b6 ?_
  refine lv_iload_n (pc := 48) hx hb dX9_timeOf_48 rfl (lv_at hl 4 rfl) ?_
  refine lv_imul (pc := 49) hx hb dX9_timeOf_49 ?_
  refine lv_iconst (v := 2) (pc := 50) hx hb dX9_timeOf_50 zk_c2 ?_
  refine lv_iadd (pc := 51) hx hb dX9_timeOf_51 ?_
  obtain ⟨hin, h⟩ := zg h
  refine z_iald (pc := 52) X hH 6 rfl hin dX9_timeOf_52 ?_
  obtain ⟨zr2, hzr2, h⟩ := zb h
  refine zcS (pc := 53) (As := [.ref (mq 6), .int x2, .int (v_row ((6 * x3)).toNatClampNeg), .int (v_row (((6 * x3) + 1)).toNatClampNeg), .int (v_row (((6 * x3) + 2)).toNatClampNeg)]) (rest := [.int (m_wait (za1).toNatClampNeg)]) (st1 := [.int zr2, .int (m_wait (za1).toNatClampNeg)]) (ws' := wM cy mq m_hosts m_lost m_late m_wait m_per m_blocks v_row m_many m_made m_madeMany m_lacking m_thrown m_now m_ahead m_then m_time m_timeThen m_isThere m_comes) (wr := [((mq 0), .inr (8, [.int m_hosts, .ref (mq 1), .ref (mq 2), .ref (mq 3), .ref (mq 4), .ref (mq 5), .ref (mq 6), .int m_many, .ref (mq 7), .int m_madeMany, .int m_lacking, .int m_thrown, .ref (mq 8), .ref (mq 9), .ref (mq 10), .ref (mq 11), .ref (mq 12), .ref (mq 13), .ref (mq 14)])), ((mq 1), .inl (cy 2, 16, .inl m_lost)), ((mq 2), .inl (cy 0, 16, .inl m_late)), ((mq 3), .inl (cy 0, 256, .inl m_wait)), ((mq 4), .inl (cy 0, 256, .inl m_per)), ((mq 5), .inl (cy 0, 256, .inl m_blocks)), ((mq 7), .inl (cy 0, 7200, .inl m_made)), ((mq 8), .inl (cy 3, 65536, .inl m_now)), ((mq 9), .inl (cy 3, 65536, .inl m_ahead)), ((mq 10), .inl (cy 0, 256, .inl m_then)), ((mq 11), .inl (cy 0, 16, .inl m_time)), ((mq 12), .inl (cy 0, 16, .inl m_timeThen)), ((mq 13), .inl (cy 2, 256, .inl m_isThere)), ((mq 14), .inl (cy 2, 256, .inl m_comes))]) (n := 5) X (c_X9_letter l G cy fu (mq 6) v_row x2 (v_row ((6 * x3)).toNatClampNeg) (v_row (((6 * x3) + 1)).toNatClampNeg) (v_row (((6 * x3) + 2)).toNatClampNeg) zr2 hzr2) hH [6] [0, 1, 2, 3, 4, 5, 7, 8, 9, 10, 11, 12, 13, 14] [0, 1, 2, 3, 4, 5, 14, 6, 7, 8, 9, 10, 11, 12, 13] rfl rfl rfl rfl gX9_timeOf_X9_letter rfl ⟨rfl, rfl⟩ kX9_letter ⟨Nat.le_of_ble_eq_true rfl, Nat.le_of_ble_eq_true rfl⟩ rfl rfl rfl hl.1 (Nat.le_of_ble_eq_true rfl) ⟨Nat.le_of_ble_eq_true rfl, Nat.le_of_ble_eq_true rfl⟩ dX9_timeOf_53 (fun H locs hH => ?_)
  refine lv_aload_n (pc := 56) hx hb dX9_timeOf_56 rfl (lv_at hl 1 rfl) ?_
  refine z_get (pc := 57) (v := .ref (mq 4)) X iX9_timeOf_X9 hH 0 rfl rfl 4 rfl (List.mem_of_getElem? (i := 2) rfl) rfl dX9_timeOf_57 ?_
  refine lv_iload (pc := 60) hx hb dX9_timeOf_60 (lv_at hl 0 rfl) ?_
  obtain ⟨hin, h⟩ := zg h
  refine z_iald (pc := 62) X hH 4 rfl hin dX9_timeOf_62 ?_
  refine lv_imul (pc := 63) hx hb dX9_timeOf_63 ?_
  refine lv_iadd (pc := 64) hx hb dX9_timeOf_64 ?_
  obtain rfl := Option.some.inj h
  exact z_iret X hr hH dX9_timeOf_65
set_option maxHeartbeats 4000000 in
set_option maxRecDepth 100000 in
theorem w_X9_ticksOf_s_l21 {p : Program} {l : Launch} {e : Env} {s : State} {m : MethodId} {args : Array Value} {below : List Frame} {meth : Method} {c : Code} {A : Nat → Prop} {Q : State → Prop} (G : va_G) (cy : Nat → ClassId) (fu : Nat) (mq : Nat → Nat) (v_row : Nat → Int32) (m_hosts : Int32) (m_lost : Nat → Int32) (m_late : Nat → Int32) (m_wait : Nat → Int32) (m_per : Nat → Int32) (m_blocks : Nat → Int32) (m_many : Int32) (m_made : Nat → Int32) (m_madeMany : Int32) (m_lacking : Int32) (m_thrown : Int32) (m_now : Nat → Int32) (m_ahead : Nat → Int32) (m_then : Nat → Int32) (m_time : Nat → Int32) (m_timeThen : Nat → Int32) (m_isThere : Nat → Int32) (m_comes : Nat → Int32) (x2 : Int32) (x3 : Int32) (x4 : Int32) (X : zX p s m args meth c RX9 cX9_ticksOf 8 wsX9_ticksOf G cy A) : ∀ (n : Nat) (x5 : Int32) (x6 : Int32) (rr : Int32) (h : lp (f_X9_ticksOf_l21 fu v_row m_wait m_per x2 x4) n (x5, x6) = some rr) (H : Heap) (locs : List Loc) (ls : Array Slot) (hH : zH G A s.heap (wM cy mq m_hosts m_lost m_late m_wait m_per m_blocks v_row m_many m_made m_madeMany m_lacking m_thrown m_now m_ahead m_then m_time m_timeThen m_isThere m_comes) H locs) (hl : lv_has ls 8 [(0, .ref (mq 0)), (1, .ref (mq 6)), (2, .int x2), (3, .int x3), (4, .int x4), (5, .int x5), (6, .int x6)]) (K0 : ∀ (H : Heap) (locs : List Loc) (ls : Array Slot), zH G A s.heap (wM cy mq m_hosts m_lost m_late m_wait m_per m_blocks v_row m_many m_made m_madeMany m_lacking m_thrown m_now m_ahead m_then m_time m_timeThen m_isThere m_comes) H locs → lv_has ls 8 [(0, .ref (mq 0)), (1, .ref (mq 6)), (2, .int x2), (3, .int x3), (4, .int x4), (5, .int rr)] → W p l e (zR 2 50) s m args below meth c H locs 0 0 Q (F0 m 74 ls [])), W p l e (zR 2 50) s m args below meth c H locs 0 0 Q (F0 m 21 ls []) := by
  have hx := X.1.1
  have hb := X.1.2.1
  intro n
  induction n with
  | zero => intro x5 x6 rr h H locs ls hH hl K0; cases h
  | succ n ih =>
    intro x5 x6 rr h H locs ls hH hl K0
    replace h : f_X9_ticksOf_l21 fu v_row m_wait m_per x2 x4 (lp (f_X9_ticksOf_l21 fu v_row m_wait m_per x2 x4) n) (x5, x6) = some rr := h
    dsimp only [f_X9_ticksOf_l21] at h
    refine lv_iload (pc := 21) hx hb dX9_ticksOf_21 (lv_at hl 6 rfl) ?_
    refine lv_iload_n (pc := 23) hx hb dX9_ticksOf_23 rfl (lv_at hl 2 rfl) ?_
    refine lv_icmp_ge (pc := 24) (tgt := 74) hx hb dX9_ticksOf_24 rfl (fun zc1 => ?_) (fun zc1 => ?_)
    · have h := zt zc1 h
      obtain rfl := Option.some.inj h
      exact K0 _ _ _ hH (lv_sub hl [0, 1, 2, 3, 4, 5] rfl)
    have h := zf zc1 h
    refine lv_aload_n (pc := 27) hx hb dX9_ticksOf_27 rfl (lv_at hl 1 rfl) ?_
    refine lv_bipush (v := 6) (pc := 28) hx hb dX9_ticksOf_28 zk_b6 ?_
    refine lv_iload (pc := 30) hx hb dX9_ticksOf_30 (lv_at hl 6 rfl) ?_
    refine lv_imul (pc := 32) hx hb dX9_ticksOf_32 ?_
    obtain ⟨hin, h⟩ := zg h
    refine z_iald (pc := 33) X hH 6 rfl hin dX9_ticksOf_33 ?_
    refine lv_iload (pc := 34) hx hb dX9_ticksOf_34 (lv_at hl 4 rfl) ?_
    refine lv_icmp_eq (pc := 36) (tgt := 42) hx hb dX9_ticksOf_36 rfl (fun zc2 => ?_) (fun zc2 => ?_)
    · have h := zt zc2 h
      refine lv_aload_n (pc := 42) hx hb dX9_ticksOf_42 rfl (lv_at hl 0 rfl) ?_
      refine lv_aload_n (pc := 43) hx hb dX9_ticksOf_43 rfl (lv_at hl 1 rfl) ?_
      refine lv_iload_n (pc := 44) hx hb dX9_ticksOf_44 rfl (lv_at hl 2 rfl) ?_
      refine lv_iload (pc := 45) hx hb dX9_ticksOf_45 (lv_at hl 6 rfl) ?_
      obtain ⟨zr3, hzr3, h⟩ := zb h
      refine zcV (pc := 47) (As := [.ref (mq 6), .int x2, .int x6]) (rest := []) (st1 := [.int zr3]) (ws' := wM cy mq m_hosts m_lost m_late m_wait m_per m_blocks v_row m_many m_made m_madeMany m_lacking m_thrown m_now m_ahead m_then m_time m_timeThen m_isThere m_comes) (wr := []) (n := 3) (q0 := 0) X (c_X9_timeOf_s l G cy fu mq v_row m_hosts m_lost m_late m_wait m_per m_blocks m_many m_made m_madeMany m_lacking m_thrown m_now m_ahead m_then m_time m_timeThen m_isThere m_comes x2 x6 zr3 hzr3) hH [0, 1, 2, 3, 4, 5, 6, 7, 8, 9, 10, 11, 12, 13, 14] [] [0, 1, 2, 3, 4, 5, 6, 7, 8, 9, 10, 11, 12, 13, 14] rfl rfl rfl rfl gX9_ticksOf_X9_timeOf rfl ⟨rfl, rfl⟩ kX9_timeOf ⟨Nat.le_of_ble_eq_true rfl, Nat.le_of_ble_eq_true rfl⟩ rfl rfl rfl rfl rfl hl.1 (Nat.le_of_ble_eq_true rfl) ⟨Nat.le_of_ble_eq_true rfl, Nat.le_of_ble_eq_true rfl⟩ dX9_ticksOf_47 (fun H locs hH => ?_)
      refine lv_istore (pc := 50) (lv' := [(7, .int zr3), (0, .ref (mq 0)), (1, .ref (mq 6)), (2, .int x2), (3, .int x3), (4, .int x4), (5, .int x5), (6, .int x6)]) hx hb dX9_ticksOf_50 hl (by decide) rfl (fun ls hl => ?_)
      refine lv_iload (pc := 52) hx hb dX9_ticksOf_52 (lv_at hl 0 rfl) ?_
      refine lv_iload (pc := 54) hx hb dX9_ticksOf_54 (lv_at hl 6 rfl) ?_
      refine lv_icmp_le (pc := 56) (tgt := 64) hx hb dX9_ticksOf_56 rfl (fun zc4 => ?_) (fun zc4 => ?_)
      · have h := zt zc4 h
        refine lv_iload (pc := 64) hx hb dX9_ticksOf_64 (lv_at hl 6 rfl) ?_
        refine lv_istore (pc := 66) (lv' := [(5, .int x5), (7, .int zr3), (0, .ref (mq 0)), (1, .ref (mq 6)), (2, .int x2), (3, .int x3), (4, .int x4), (6, .int x6)]) hx hb dX9_ticksOf_66 hl (by decide) rfl (fun ls hl => ?_)
        refine lv_iinc (pc := 68) (v := (x6 + 1)) (lv' := [(6, .int (x6 + 1)), (5, .int x5), (7, .int zr3), (0, .ref (mq 0)), (1, .ref (mq 6)), (2, .int x2), (3, .int x3), (4, .int x4)]) hx hb dX9_ticksOf_68 hl (k := 7) rfl (by rw [zk_c1]) (by decide) rfl (fun ls hl => ?_)
        refine lv_goto (pc := 71) (tgt := 21) hx hb dX9_ticksOf_71 rfl ?_
        exact ih x5 (x6 + 1) rr h _ _ _ hH (lv_sub hl [3, 4, 5, 6, 7, 1, 0] rfl) K0
      have h := zf zc4 h
      refine lv_iload (pc := 59) hx hb dX9_ticksOf_59 (lv_at hl 0 rfl) ?_
      refine lv_goto (pc := 61) (tgt := 66) hx hb dX9_ticksOf_61 rfl ?_
      refine lv_istore (pc := 66) (lv' := [(5, .int zr3), (7, .int zr3), (0, .ref (mq 0)), (1, .ref (mq 6)), (2, .int x2), (3, .int x3), (4, .int x4), (6, .int x6)]) hx hb dX9_ticksOf_66 hl (by decide) rfl (fun ls hl => ?_)
      refine lv_iinc (pc := 68) (v := (x6 + 1)) (lv' := [(6, .int (x6 + 1)), (5, .int zr3), (7, .int zr3), (0, .ref (mq 0)), (1, .ref (mq 6)), (2, .int x2), (3, .int x3), (4, .int x4)]) hx hb dX9_ticksOf_68 hl (k := 7) rfl (by rw [zk_c1]) (by decide) rfl (fun ls hl => ?_)
      refine lv_goto (pc := 71) (tgt := 21) hx hb dX9_ticksOf_71 rfl ?_
      exact ih zr3 (x6 + 1) rr h _ _ _ hH (lv_sub hl [3, 4, 5, 6, 7, 1, 0] rfl) K0
    have h := zf zc2 h
    refine lv_goto (pc := 39) (tgt := 68) hx hb dX9_ticksOf_39 rfl ?_
    refine lv_iinc (pc := 68) (v := (x6 + 1)) (lv' := [(6, .int (x6 + 1)), (0, .ref (mq 0)), (1, .ref (mq 6)), (2, .int x2), (3, .int x3), (4, .int x4), (5, .int x5)]) hx hb dX9_ticksOf_68 hl (k := 6) rfl (by rw [zk_c1]) (by decide) rfl (fun ls hl => ?_)
    refine lv_goto (pc := 71) (tgt := 21) hx hb dX9_ticksOf_71 rfl ?_
    exact ih x5 (x6 + 1) rr h _ _ _ hH (lv_sub hl [1, 2, 3, 4, 5, 6, 0] rfl) K0
set_option maxHeartbeats 4000000 in
set_option maxRecDepth 100000 in
theorem w_X9_ticksOf_s_l5 {p : Program} {l : Launch} {e : Env} {s : State} {m : MethodId} {args : Array Value} {below : List Frame} {meth : Method} {c : Code} {A : Nat → Prop} {Q : State → Prop} (G : va_G) (cy : Nat → ClassId) (fu : Nat) (mq : Nat → Nat) (v_row : Nat → Int32) (m_hosts : Int32) (m_lost : Nat → Int32) (m_late : Nat → Int32) (m_wait : Nat → Int32) (m_per : Nat → Int32) (m_blocks : Nat → Int32) (m_many : Int32) (m_made : Nat → Int32) (m_madeMany : Int32) (m_lacking : Int32) (m_thrown : Int32) (m_now : Nat → Int32) (m_ahead : Nat → Int32) (m_then : Nat → Int32) (m_time : Nat → Int32) (m_timeThen : Nat → Int32) (m_isThere : Nat → Int32) (m_comes : Nat → Int32) (x2 : Int32) (X : zX p s m args meth c RX9 cX9_ticksOf 8 wsX9_ticksOf G cy A) : ∀ (n : Nat) (x3 : Int32) (x4 : Int32) (rr : Int32) (h : lp (f_X9_ticksOf_l5 fu v_row m_wait m_per x2) n (x3, x4) = some rr) (H : Heap) (locs : List Loc) (ls : Array Slot) (hH : zH G A s.heap (wM cy mq m_hosts m_lost m_late m_wait m_per m_blocks v_row m_many m_made m_madeMany m_lacking m_thrown m_now m_ahead m_then m_time m_timeThen m_isThere m_comes) H locs) (hl : lv_has ls 8 [(0, .ref (mq 0)), (1, .ref (mq 6)), (2, .int x2), (3, .int x3), (4, .int x4)]) (K0 : ∀ (H : Heap) (locs : List Loc) (ls : Array Slot), zH G A s.heap (wM cy mq m_hosts m_lost m_late m_wait m_per m_blocks v_row m_many m_made m_madeMany m_lacking m_thrown m_now m_ahead m_then m_time m_timeThen m_isThere m_comes) H locs → lv_has ls 8 [(3, .int rr)] → W p l e (zR 2 50) s m args below meth c H locs 0 0 Q (F0 m 85 ls [])), W p l e (zR 2 50) s m args below meth c H locs 0 0 Q (F0 m 5 ls []) := by
  have hx := X.1.1
  have hb := X.1.2.1
  intro n
  induction n with
  | zero => intro x3 x4 rr h H locs ls hH hl K0; cases h
  | succ n ih =>
    intro x3 x4 rr h H locs ls hH hl K0
    replace h : f_X9_ticksOf_l5 fu v_row m_wait m_per x2 (lp (f_X9_ticksOf_l5 fu v_row m_wait m_per x2) n) (x3, x4) = some rr := h
    dsimp only [f_X9_ticksOf_l5] at h
    refine lv_iload (pc := 5) hx hb dX9_ticksOf_5 (lv_at hl 4 rfl) ?_
    refine lv_aload_n (pc := 7) hx hb dX9_ticksOf_7 rfl (lv_at hl 1 rfl) ?_
    refine lv_iload_n (pc := 8) hx hb dX9_ticksOf_8 rfl (lv_at hl 2 rfl) ?_
    obtain ⟨zr1, hzr1, h⟩ := zb h
    refine zcS (pc := 9) (As := [.ref (mq 6), .int x2]) (rest := [.int x4]) (st1 := [.int zr1, .int x4]) (ws' := wM cy mq m_hosts m_lost m_late m_wait m_per m_blocks v_row m_many m_made m_madeMany m_lacking m_thrown m_now m_ahead m_then m_time m_timeThen m_isThere m_comes) (wr := [((mq 0), .inr (8, [.int m_hosts, .ref (mq 1), .ref (mq 2), .ref (mq 3), .ref (mq 4), .ref (mq 5), .ref (mq 6), .int m_many, .ref (mq 7), .int m_madeMany, .int m_lacking, .int m_thrown, .ref (mq 8), .ref (mq 9), .ref (mq 10), .ref (mq 11), .ref (mq 12), .ref (mq 13), .ref (mq 14)])), ((mq 1), .inl (cy 2, 16, .inl m_lost)), ((mq 2), .inl (cy 0, 16, .inl m_late)), ((mq 3), .inl (cy 0, 256, .inl m_wait)), ((mq 4), .inl (cy 0, 256, .inl m_per)), ((mq 5), .inl (cy 0, 256, .inl m_blocks)), ((mq 7), .inl (cy 0, 7200, .inl m_made)), ((mq 8), .inl (cy 3, 65536, .inl m_now)), ((mq 9), .inl (cy 3, 65536, .inl m_ahead)), ((mq 10), .inl (cy 0, 256, .inl m_then)), ((mq 11), .inl (cy 0, 16, .inl m_time)), ((mq 12), .inl (cy 0, 16, .inl m_timeThen)), ((mq 13), .inl (cy 2, 256, .inl m_isThere)), ((mq 14), .inl (cy 2, 256, .inl m_comes))]) (n := 2) X (c_X9_stepsOf l G cy fu (mq 6) v_row x2 zr1 hzr1) hH [6] [0, 1, 2, 3, 4, 5, 7, 8, 9, 10, 11, 12, 13, 14] [0, 1, 2, 3, 4, 5, 14, 6, 7, 8, 9, 10, 11, 12, 13] rfl rfl rfl rfl gX9_ticksOf_X9_stepsOf rfl ⟨rfl, rfl⟩ kX9_stepsOf ⟨Nat.le_of_ble_eq_true rfl, Nat.le_of_ble_eq_true rfl⟩ rfl rfl rfl hl.1 (Nat.le_of_ble_eq_true rfl) ⟨Nat.le_of_ble_eq_true rfl, Nat.le_of_ble_eq_true rfl⟩ dX9_ticksOf_9 (fun H locs hH => ?_)
    refine lv_icmp_ge (pc := 12) (tgt := 85) hx hb dX9_ticksOf_12 rfl (fun zc2 => ?_) (fun zc2 => ?_)
    · have h := zt zc2 h
      obtain rfl := Option.some.inj h
      exact K0 _ _ _ hH (lv_sub hl [3] rfl)
    have h := zf zc2 h
    refine lv_iconst (v := 0) (pc := 15) hx hb dX9_ticksOf_15 zk_c0 ?_
    refine lv_istore (pc := 16) (lv' := [(5, .int 0), (0, .ref (mq 0)), (1, .ref (mq 6)), (2, .int x2), (3, .int x3), (4, .int x4)]) hx hb dX9_ticksOf_16 hl (by decide) rfl (fun ls hl => ?_)
    refine lv_iconst (v := 0) (pc := 18) hx hb dX9_ticksOf_18 zk_c0 ?_
    refine lv_istore (pc := 19) (lv' := [(6, .int 0), (5, .int 0), (0, .ref (mq 0)), (1, .ref (mq 6)), (2, .int x2), (3, .int x3), (4, .int x4)]) hx hb dX9_ticksOf_19 hl (by decide) rfl (fun ls hl => ?_)
    obtain ⟨zr3, hzr3, h⟩ := zb h
    refine w_X9_ticksOf_s_l21 G cy fu mq v_row m_hosts m_lost m_late m_wait m_per m_blocks m_many m_made m_madeMany m_lacking m_thrown m_now m_ahead m_then m_time m_timeThen m_isThere m_comes x2 x3 x4 X fu 0 0 zr3 hzr3 _ _ _ hH (lv_sub hl [2, 3, 4, 5, 6, 1, 0] rfl) (fun H locs ls hH hl => ?_)
    refine lv_iload_n (pc := 74) hx hb dX9_ticksOf_74 rfl (lv_at hl 3 rfl) ?_
    refine lv_iload (pc := 75) hx hb dX9_ticksOf_75 (lv_at hl 5 rfl) ?_
    refine lv_iadd (pc := 77) hx hb dX9_ticksOf_77 ?_
    refine lv_topi (fun za4 eza4 => ?_)
    have h := vn_s h za4 eza4
    refine lv_istore_n (pc := 78) (lv' := [(3, .int za4), (0, .ref (mq 0)), (1, .ref (mq 6)), (2, .int x2), (4, .int x4), (5, .int zr3)]) hx hb dX9_ticksOf_78 rfl hl (by decide) rfl (fun ls hl => ?_)
    refine lv_iinc (pc := 79) (v := (x4 + 1)) (lv' := [(4, .int (x4 + 1)), (3, .int za4), (0, .ref (mq 0)), (1, .ref (mq 6)), (2, .int x2), (5, .int zr3)]) hx hb dX9_ticksOf_79 hl (k := 4) rfl (by rw [zk_c1]) (by decide) rfl (fun ls hl => ?_)
    refine lv_goto (pc := 82) (tgt := 5) hx hb dX9_ticksOf_82 rfl ?_
    exact ih za4 (x4 + 1) rr h _ _ _ hH (lv_sub hl [2, 3, 4, 1, 0] rfl) K0
set_option maxHeartbeats 4000000 in
set_option maxRecDepth 100000 in
theorem c_X9_ticksOf_s (l : Launch) (G : va_G) (cy : Nat → ClassId) (fu : Nat) (mq : Nat → Nat) (v_row : Nat → Int32) (m_hosts : Int32) (m_lost : Nat → Int32) (m_late : Nat → Int32) (m_wait : Nat → Int32) (m_per : Nat → Int32) (m_blocks : Nat → Int32) (m_many : Int32) (m_made : Nat → Int32) (m_madeMany : Int32) (m_lacking : Int32) (m_thrown : Int32) (m_now : Nat → Int32) (m_ahead : Nat → Int32) (m_then : Nat → Int32) (m_time : Nat → Int32) (m_timeThen : Nat → Int32) (m_isThere : Nat → Int32) (m_comes : Nat → Int32) (x2 : Int32) (rr : Int32) (h : f_X9_ticksOf fu v_row m_wait m_per x2 = some rr) : zM l G cy yX9_ticksOf wsX9_ticksOf (zR 2 50) [.ref (mq 0), .ref (mq 6), .int x2] (wM cy mq m_hosts m_lost m_late m_wait m_per m_blocks v_row m_many m_made m_madeMany m_lacking m_thrown m_now m_ahead m_then m_time m_timeThen m_isThere m_comes) (wM cy mq m_hosts m_lost m_late m_wait m_per m_blocks v_row m_many m_made m_madeMany m_lacking m_thrown m_now m_ahead m_then m_time m_timeThen m_isThere m_comes) (some (.int rr)) := by
  refine zM.mk (cc := cX9_ticksOf) (nL := 8) (ret := (some .int)) (by decide) rfl (Nat.le_of_ble_eq_true rfl) ?_
  intro p e s m below meth c A ls X hr hH hl
  replace X : zX p s m [.ref (mq 0), .ref (mq 6), .int x2].toArray meth c RX9 cX9_ticksOf 8 wsX9_ticksOf G cy A := X
  have hx := X.1.1
  have hb := X.1.2.1
  replace hl : lv_has ls 8 [(0, .ref (mq 0)), (1, .ref (mq 6)), (2, .int x2)] := hl
  dsimp only [f_X9_ticksOf] at h
  refine lv_iconst (v := 0) (pc := 0) hx hb dX9_ticksOf_0 zk_c0 ?_
  refine lv_istore_n (pc := 1) (lv' := [(3, .int 0), (0, .ref (mq 0)), (1, .ref (mq 6)), (2, .int x2)]) hx hb dX9_ticksOf_1 rfl hl (by decide) rfl (fun ls hl => ?_)
  refine lv_iconst (v := 0) (pc := 2) hx hb dX9_ticksOf_2 zk_c0 ?_
  refine lv_istore (pc := 3) (lv' := [(4, .int 0), (3, .int 0), (0, .ref (mq 0)), (1, .ref (mq 6)), (2, .int x2)]) hx hb dX9_ticksOf_3 hl (by decide) rfl (fun ls hl => ?_)
  obtain ⟨zr1, hzr1, h⟩ := zb h
  refine w_X9_ticksOf_s_l5 G cy fu mq v_row m_hosts m_lost m_late m_wait m_per m_blocks m_many m_made m_madeMany m_lacking m_thrown m_now m_ahead m_then m_time m_timeThen m_isThere m_comes x2 X fu 0 0 zr1 hzr1 _ _ _ hH (lv_sub hl [2, 3, 4, 1, 0] rfl) (fun H locs ls hH hl => ?_)
  refine lv_iload_n (pc := 85) hx hb dX9_ticksOf_85 rfl (lv_at hl 0 rfl) ?_
  obtain rfl := Option.some.inj h
  exact z_iret X hr hH dX9_ticksOf_86
set_option maxHeartbeats 4000000 in
set_option maxRecDepth 100000 in
theorem c_X9_timeOf_m (l : Launch) (G : va_G) (cy : Nat → ClassId) (fu : Nat) (mq : Nat → Nat) (v_row : Nat → Int32) (m_hosts : Int32) (m_lost : Nat → Int32) (m_late : Nat → Int32) (m_wait : Nat → Int32) (m_per : Nat → Int32) (m_blocks : Nat → Int32) (m_sends : Nat → Int32) (m_many : Int32) (m_madeMany : Int32) (m_lacking : Int32) (m_thrown : Int32) (m_now : Nat → Int32) (m_ahead : Nat → Int32) (m_then : Nat → Int32) (m_time : Nat → Int32) (m_timeThen : Nat → Int32) (m_isThere : Nat → Int32) (m_comes : Nat → Int32) (x2 : Int32) (x3 : Int32) (rr : Int32) (h : f_X9_timeOf fu v_row m_wait m_per x2 x3 = some rr) : zM l G cy yX9_timeOf wsX9_timeOf (zR 1 26) [.ref (mq 0), .ref (mq 7), .int x2, .int x3] (wM cy mq m_hosts m_lost m_late m_wait m_per m_blocks m_sends m_many v_row m_madeMany m_lacking m_thrown m_now m_ahead m_then m_time m_timeThen m_isThere m_comes) (wM cy mq m_hosts m_lost m_late m_wait m_per m_blocks m_sends m_many v_row m_madeMany m_lacking m_thrown m_now m_ahead m_then m_time m_timeThen m_isThere m_comes) (some (.int rr)) := by
  refine zM.mk (cc := cX9_timeOf) (nL := 5) (ret := (some .int)) (by decide) rfl (Nat.le_of_ble_eq_true rfl) ?_
  intro p e s m below meth c A ls X hr hH hl
  replace X : zX p s m [.ref (mq 0), .ref (mq 7), .int x2, .int x3].toArray meth c RX9 cX9_timeOf 5 wsX9_timeOf G cy A := X
  have hx := X.1.1
  have hb := X.1.2.1
  replace hl : lv_has ls 5 [(0, .ref (mq 0)), (1, .ref (mq 7)), (2, .int x2), (3, .int x3)] := hl
  dsimp only [f_X9_timeOf] at h
  refine lv_bipush (v := 16) (pc := 0) hx hb dX9_timeOf_0 zk_b16 ?_
  refine lv_aload_n (pc := 2) hx hb dX9_timeOf_2 rfl (lv_at hl 1 rfl) ?_
  refine lv_bipush (v := 6) (pc := 3) hx hb dX9_timeOf_3 zk_b6 ?_
  refine lv_iload_n (pc := 5) hx hb dX9_timeOf_5 rfl (lv_at hl 3 rfl) ?_
  refine lv_imul (pc := 6) hx hb dX9_timeOf_6 ?_
  refine lv_iconst (v := 1) (pc := 7) hx hb dX9_timeOf_7 zk_c1 ?_
  refine lv_iadd (pc := 8) hx hb dX9_timeOf_8 ?_
  obtain ⟨hin, h⟩ := zg h
  refine z_iald (pc := 9) X hH 7 rfl hin dX9_timeOf_9 ?_
  refine lv_imul (pc := 10) hx hb dX9_timeOf_10 ?_
  refine lv_aload_n (pc := 11) hx hb dX9_timeOf_11 rfl (lv_at hl 1 rfl) ?_
  refine lv_bipush (v := 6) (pc := 12) hx hb dX9_timeOf_12 zk_b6 ?_
  refine lv_iload_n (pc := 14) hx hb dX9_timeOf_14 rfl (lv_at hl 3 rfl) ?_
  refine lv_imul (pc := 15) hx hb dX9_timeOf_15 ?_
  refine lv_iconst (v := 2) (pc := 16) hx hb dX9_timeOf_16 zk_c2 ?_
  refine lv_iadd (pc := 17) hx hb dX9_timeOf_17 ?_
  obtain ⟨hin, h⟩ := zg h
  refine z_iald (pc := 18) X hH 7 rfl hin dX9_timeOf_18 ?_
  refine lv_iadd (pc := 19) hx hb dX9_timeOf_19 ?_
  refine lv_topi (fun za1 eza1 => ?_)
  have h := vn_s h za1 eza1
  refine lv_istore (pc := 20) (lv' := [(4, .int za1), (0, .ref (mq 0)), (1, .ref (mq 7)), (2, .int x2), (3, .int x3)]) hx hb dX9_timeOf_20 hl (by decide) rfl (fun ls hl => ?_)
  refine lv_aload_n (pc := 22) hx hb dX9_timeOf_22 rfl (lv_at hl 1 rfl) ?_
  refine z_get (pc := 23) (v := .ref (mq 3)) X iX9_timeOf_X9 hH 0 rfl rfl 3 rfl (List.mem_of_getElem? (i := 1) rfl) rfl dX9_timeOf_23 ?_
  refine lv_iload (pc := 26) hx hb dX9_timeOf_26 (lv_at hl 0 rfl) ?_
  obtain ⟨hin, h⟩ := zg h
  refine z_iald (pc := 28) X hH 3 rfl hin dX9_timeOf_28 ?_
  refine lv_aload_n (pc := 29) hx hb dX9_timeOf_29 rfl (lv_at hl 2 rfl) ?_
  refine lv_iload_n (pc := 30) hx hb dX9_timeOf_30 rfl (lv_at hl 3 rfl) ?_
  refine lv_aload_n (pc := 31) hx hb dX9_timeOf_31 rfl (lv_at hl 2 rfl) ?_
  refine lv_bipush (v := 6) (pc := 32) hx hb dX9_timeOf_32 zk_b6 ?_
  refine lv_iload_n (pc := 34) hx hb dX9_timeOf_34 rfl (lv_at hl 4 rfl) ?_
  refine lv_imul (pc := 35) hx hb dX9_timeOf_35 ?_
  obtain ⟨hin, h⟩ := zg h
  refine z_iald (pc := 36) X hH 7 rfl hin dX9_timeOf_36 ?_
  refine lv_aload_n (pc := 37) hx hb dX9_timeOf_37 rfl (lv_at hl 2 rfl) ?_
  refine lv_bipush (v := 6) (pc := 38) hx hb dX9_timeOf_38 zk_b6 ?_
  refine lv_iload_n (pc := 40) hx hb dX9_timeOf_40 rfl (lv_at hl 4 rfl) ?_
  refine lv_imul (pc := 41) hx hb dX9_timeOf_41 ?_
  refine lv_iconst (v := 1) (pc := 42) hx hb dX9_timeOf_42 zk_c1 ?_
  refine lv_iadd (pc := 43) hx hb dX9_timeOf_43 ?_
  obtain ⟨hin, h⟩ := zg h
  refine z_iald (pc := 44) X hH 7 rfl hin dX9_timeOf_44 ?_
  refine lv_aload_n (pc := 45) hx hb dX9_timeOf_45 rfl (lv_at hl 2 rfl) ?_
  refine lv_bipush (v := 6) (pc := 46) hx hb dX9_timeOf_46 zk_b6 ?_
  refine lv_iload_n (pc := 48) hx hb dX9_timeOf_48 rfl (lv_at hl 4 rfl) ?_
  refine lv_imul (pc := 49) hx hb dX9_timeOf_49 ?_
  refine lv_iconst (v := 2) (pc := 50) hx hb dX9_timeOf_50 zk_c2 ?_
  refine lv_iadd (pc := 51) hx hb dX9_timeOf_51 ?_
  obtain ⟨hin, h⟩ := zg h
  refine z_iald (pc := 52) X hH 7 rfl hin dX9_timeOf_52 ?_
  obtain ⟨zr2, hzr2, h⟩ := zb h
  refine zcS (pc := 53) (As := [.ref (mq 7), .int x2, .int (v_row ((6 * x3)).toNatClampNeg), .int (v_row (((6 * x3) + 1)).toNatClampNeg), .int (v_row (((6 * x3) + 2)).toNatClampNeg)]) (rest := [.int (m_wait (za1).toNatClampNeg)]) (st1 := [.int zr2, .int (m_wait (za1).toNatClampNeg)]) (ws' := wM cy mq m_hosts m_lost m_late m_wait m_per m_blocks m_sends m_many v_row m_madeMany m_lacking m_thrown m_now m_ahead m_then m_time m_timeThen m_isThere m_comes) (wr := [((mq 0), .inr (8, [.int m_hosts, .ref (mq 1), .ref (mq 2), .ref (mq 3), .ref (mq 4), .ref (mq 5), .ref (mq 6), .int m_many, .ref (mq 7), .int m_madeMany, .int m_lacking, .int m_thrown, .ref (mq 8), .ref (mq 9), .ref (mq 10), .ref (mq 11), .ref (mq 12), .ref (mq 13), .ref (mq 14)])), ((mq 1), .inl (cy 2, 16, .inl m_lost)), ((mq 2), .inl (cy 0, 16, .inl m_late)), ((mq 3), .inl (cy 0, 256, .inl m_wait)), ((mq 4), .inl (cy 0, 256, .inl m_per)), ((mq 5), .inl (cy 0, 256, .inl m_blocks)), ((mq 6), .inl (cy 0, 7200, .inl m_sends)), ((mq 8), .inl (cy 3, 65536, .inl m_now)), ((mq 9), .inl (cy 3, 65536, .inl m_ahead)), ((mq 10), .inl (cy 0, 256, .inl m_then)), ((mq 11), .inl (cy 0, 16, .inl m_time)), ((mq 12), .inl (cy 0, 16, .inl m_timeThen)), ((mq 13), .inl (cy 2, 256, .inl m_isThere)), ((mq 14), .inl (cy 2, 256, .inl m_comes))]) (n := 5) X (c_X9_letter l G cy fu (mq 7) v_row x2 (v_row ((6 * x3)).toNatClampNeg) (v_row (((6 * x3) + 1)).toNatClampNeg) (v_row (((6 * x3) + 2)).toNatClampNeg) zr2 hzr2) hH [7] [0, 1, 2, 3, 4, 5, 6, 8, 9, 10, 11, 12, 13, 14] [0, 1, 2, 3, 4, 5, 6, 14, 7, 8, 9, 10, 11, 12, 13] rfl rfl rfl rfl gX9_timeOf_X9_letter rfl ⟨rfl, rfl⟩ kX9_letter ⟨Nat.le_of_ble_eq_true rfl, Nat.le_of_ble_eq_true rfl⟩ rfl rfl rfl hl.1 (Nat.le_of_ble_eq_true rfl) ⟨Nat.le_of_ble_eq_true rfl, Nat.le_of_ble_eq_true rfl⟩ dX9_timeOf_53 (fun H locs hH => ?_)
  refine lv_aload_n (pc := 56) hx hb dX9_timeOf_56 rfl (lv_at hl 1 rfl) ?_
  refine z_get (pc := 57) (v := .ref (mq 4)) X iX9_timeOf_X9 hH 0 rfl rfl 4 rfl (List.mem_of_getElem? (i := 2) rfl) rfl dX9_timeOf_57 ?_
  refine lv_iload (pc := 60) hx hb dX9_timeOf_60 (lv_at hl 0 rfl) ?_
  obtain ⟨hin, h⟩ := zg h
  refine z_iald (pc := 62) X hH 4 rfl hin dX9_timeOf_62 ?_
  refine lv_imul (pc := 63) hx hb dX9_timeOf_63 ?_
  refine lv_iadd (pc := 64) hx hb dX9_timeOf_64 ?_
  obtain rfl := Option.some.inj h
  exact z_iret X hr hH dX9_timeOf_65
