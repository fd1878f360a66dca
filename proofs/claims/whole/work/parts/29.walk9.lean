set_option maxHeartbeats 4000000 in
set_option maxRecDepth 100000 in
theorem w_X9_ticksOf_m_l21 {p : Program} {l : Launch} {e : Env} {s : State} {m : MethodId} {args : Array Value} {below : List Frame} {meth : Method} {c : Code} {A : Nat → Prop} {Q : State → Prop} (G : va_G) (cy : Nat → ClassId) (fu : Nat) (mq : Nat → Nat) (v_row : Nat → Int32) (m_hosts : Int32) (m_lost : Nat → Int32) (m_late : Nat → Int32) (m_wait : Nat → Int32) (m_per : Nat → Int32) (m_blocks : Nat → Int32) (m_sends : Nat → Int32) (m_many : Int32) (m_madeMany : Int32) (m_lacking : Int32) (m_thrown : Int32) (m_now : Nat → Int32) (m_ahead : Nat → Int32) (m_then : Nat → Int32) (m_time : Nat → Int32) (m_timeThen : Nat → Int32) (m_isThere : Nat → Int32) (m_comes : Nat → Int32) (x2 : Int32) (x3 : Int32) (x4 : Int32) (X : zX p s m args meth c RX9 cX9_ticksOf 8 wsX9_ticksOf G cy A) : ∀ (n : Nat) (x5 : Int32) (x6 : Int32) (rr : Int32) (h : lp (f_X9_ticksOf_l21 fu v_row m_wait m_per x2 x4) n (x5, x6) = some rr) (H : Heap) (locs : List Loc) (ls : Array Slot) (hH : zH G A s.heap (wM cy mq m_hosts m_lost m_late m_wait m_per m_blocks m_sends m_many v_row m_madeMany m_lacking m_thrown m_now m_ahead m_then m_time m_timeThen m_isThere m_comes) H locs) (hl : lv_has ls 8 [(0, .ref (mq 0)), (1, .ref (mq 7)), (2, .int x2), (3, .int x3), (4, .int x4), (5, .int x5), (6, .int x6)]) (K0 : ∀ (H : Heap) (locs : List Loc) (ls : Array Slot), zH G A s.heap (wM cy mq m_hosts m_lost m_late m_wait m_per m_blocks m_sends m_many v_row m_madeMany m_lacking m_thrown m_now m_ahead m_then m_time m_timeThen m_isThere m_comes) H locs → lv_has ls 8 [(0, .ref (mq 0)), (1, .ref (mq 7)), (2, .int x2), (3, .int x3), (4, .int x4), (5, .int rr)] → W p l e (zR 2 50) s m args below meth c H locs 0 0 Q (F0 m 74 ls [])), W p l e (zR 2 50) s m args below meth c H locs 0 0 Q (F0 m 21 ls []) := by
  have hx := X.1.1
  have hb := X.1.2.1
  intro n
  induction n with
  | zero => intro x5 x6 rr h H locs ls hH hl K0; cases h
  | succ n ih =>
    intro x5 x6 rr h H locs ls hH hl K0
    replace h : f_X9_ticksOf_l21 fu v_row m_wait m_per x2 x4 (lp (f_X9_ticksOf_l21 fu v_row m_wait m_per x2 x4) n) (x5, x6) = some rr := h
    dsimp only [f_X9_ticksOf_l21] at h
    refine lv_iload (pc := 21) hx hb dX9_ticksOf_21 (lv_at hl 6 rfl) ?_
    refine lv_iload_n (pc := 23) hx hb dX9_ticksOf_23 rfl (lv_at hl 2 rfl) ?_
    refine lv_icmp_ge (pc := 24) (tgt := 74) hx hb dX9_ticksOf_24 rfl (fun zc1 => ?_) (fun zc1 => ?_)
    · have h := zt zc1 h
      obtain rfl := Option.some.inj h
      exact K0 _ _ _ hH (lv_sub hl [0, 1, 2, 3, 4, 5] rfl)
    have h := zf zc1 h
    refine lv_aload_n (pc := 27) hx hb dX9_ticksOf_27 rfl (lv_at hl 1 rfl) ?_
    refine lv_bipush (v := 6) (pc := 28) hx hb dX9_ticksOf_28 zk_b6 ?_
    refine lv_iload (pc := 30) hx hb dX9_ticksOf_30 (lv_at hl 6 rfl) ?_
    refine lv_imul (pc := 32) hx hb dX9_ticksOf_32 ?_
    obtain ⟨hin, h⟩ := zg h
    refine z_iald (pc := 33) X hH 7 rfl hin dX9_ticksOf_33 ?_
    refine lv_iload (pc := 34) hx hb dX9_ticksOf_34 (lv_at hl 4 rfl) ?_
    refine lv_icmp_eq (pc := 36) (tgt := 42) hx hb dX9_ticksOf_36 rfl (fun zc2 => ?_) (fun zc2 => ?_)
    · have h := zt zc2 h
      refine lv_aload_n (pc := 42) hx hb dX9_ticksOf_42 rfl (lv_at hl 0 rfl) ?_
      refine lv_aload_n (pc := 43) hx hb dX9_ticksOf_43 rfl (lv_at hl 1 rfl) ?_
      refine lv_iload_n (pc := 44) hx hb dX9_ticksOf_44 rfl (lv_at hl 2 rfl) ?_
      refine lv_iload (pc := 45) hx hb dX9_ticksOf_45 (lv_at hl 6 rfl) ?_
      obtain ⟨zr3, hzr3, h⟩ := zb h
      refine zcV (pc := 47) (As := [.ref (mq 7), .int x2, .int x6]) (rest := []) (st1 := [.int zr3]) (ws' := wM cy mq m_hosts m_lost m_late m_wait m_per m_blocks m_sends m_many v_row m_madeMany m_lacking m_thrown m_now m_ahead m_then m_time m_timeThen m_isThere m_comes) (wr := []) (n := 3) (q0 := 0) X (c_X9_timeOf_m l G cy fu mq v_row m_hosts m_lost m_late m_wait m_per m_blocks m_sends m_many m_madeMany m_lacking m_thrown m_now m_ahead m_then m_time m_timeThen m_isThere m_comes x2 x6 zr3 hzr3) hH [0, 1, 2, 3, 4, 5, 6, 7, 8, 9, 10, 11, 12, 13, 14] [] [0, 1, 2, 3, 4, 5, 6, 7, 8, 9, 10, 11, 12, 13, 14] rfl rfl rfl rfl gX9_ticksOf_X9_timeOf rfl ⟨rfl, rfl⟩ kX9_timeOf ⟨Nat.le_of_ble_eq_true rfl, Nat.le_of_ble_eq_true rfl⟩ rfl rfl rfl rfl rfl hl.1 (Nat.le_of_ble_eq_true rfl) ⟨Nat.le_of_ble_eq_true rfl, Nat.le_of_ble_eq_true rfl⟩ dX9_ticksOf_47 (fun H locs hH => ?_)
      refine lv_istore (pc := 50) (lv' := [(7, .int zr3), (0, .ref (mq 0)), (1, .ref (mq 7)), (2, .int x2), (3, .int x3), (4, .int x4), (5, .int x5), (6, .int x6)]) hx hb dX9_ticksOf_50 hl (by decide) rfl (fun ls hl => ?_)
      refine lv_iload (pc := 52) hx hb dX9_ticksOf_52 (lv_at hl 0 rfl) ?_
      refine lv_iload (pc := 54) hx hb dX9_ticksOf_54 (lv_at hl 6 rfl) ?_
      refine lv_icmp_le (pc := 56) (tgt := 64) hx hb dX9_ticksOf_56 rfl (fun zc4 => ?_) (fun zc4 => ?_)
      · have h := zt zc4 h
        refine lv_iload (pc := 64) hx hb dX9_ticksOf_64 (lv_at hl 6 rfl) ?_
        refine lv_istore (pc := 66) (lv' := [(5, .int x5), (7, .int zr3), (0, .ref (mq 0)), (1, .ref (mq 7)), (2, .int x2), (3, .int x3), (4, .int x4), (6, .int x6)]) hx hb dX9_ticksOf_66 hl (by decide) rfl (fun ls hl => ?_)
        refine lv_iinc (pc := 68) (v := (x6 + 1)) (lv' := [(6, .int (x6 + 1)), (5, .int x5), (7, .int zr3), (0, .ref (mq 0)), (1, .ref (mq 7)), (2, .int x2), (3, .int x3), (4, .int x4)]) hx hb dX9_ticksOf_68 hl (k := 7) rfl (by rw [zk_c1]) (by decide) rfl (fun ls hl => ?_)
        refine lv_goto (pc := 71) (tgt := 21) hx hb dX9_ticksOf_71 rfl ?_
        exact ih x5 (x6 + 1) rr h _ _ _ hH (lv_sub hl [3, 4, 5, 6, 7, 1, 0] rfl) K0
      have h := zf zc4 h
      refine lv_iload (pc := 59) hx hb dX9_ticksOf_59 (lv_at hl 0 rfl) ?_
      refine lv_goto (pc := 61) (tgt := 66) hx hb dX9_ticksOf_61 rfl ?_
      refine lv_istore (pc := 66) (lv' := [(5, .int zr3), (7, .int zr3), (0, .ref (mq 0)), (1, .ref (mq 7)), (2, .int x2), (3, .int x3), (4, .int x4), (6, .int x6)]) hx hb dX9_ticksOf_66 hl (by decide) rfl (fun ls hl => ?_)
      refine lv_iinc (pc := 68) (v := (x6 + 1)) (lv' := [(6, .int (x6 + 1)), (5, .int zr3), (7, .int zr3), (0, .ref (mq 0)), (1, .ref (mq 7)), (2, .int x2), (3, .int x3), (4, .int x4)]) hx hb dX9_ticksOf_68 hl (k := 7) rfl (by rw [zk_c1]) (by decide) rfl (fun ls hl => ?_)
      refine lv_goto (pc := 71) (tgt := 21) hx hb dX9_ticksOf_71 rfl ?_
      exact ih zr3 (x6 + 1) rr h _ _ _ hH (lv_sub hl [3, 4, 5, 6, 7, 1, 0] rfl) K0
    have h := zf zc2 h
    refine lv_goto (pc := 39) (tgt := 68) hx hb dX9_ticksOf_39 rfl ?_
    refine lv_iinc (pc := 68) (v := (x6 + 1)) (lv' := [(6, .int (x6 + 1)), (0, .ref (mq 0)), (1, .ref (mq 7)), (2, .int x2), (3, .int x3), (4, .int x4), (5, .int x5)]) hx hb dX9_ticksOf_68 hl (k := 6) rfl (by rw [zk_c1]) (by decide) rfl (fun ls hl => ?_)
    refine lv_goto (pc := 71) (tgt := 21) hx hb dX9_ticksOf_71 rfl ?_
    exact ih x5 (x6 + 1) rr h _ _ _ hH (lv_sub hl [1, 2, 3, 4, 5, 6, 0] rfl) K0
set_option maxHeartbeats 4000000 in
set_option maxRecDepth 100000 in
theorem w_X9_ticksOf_m_l5 {p : Program} {l : Launch} {e : Env} {s : State} {m : MethodId} {args : Array Value} {below : List Frame} {meth : Method} {c : Code} {A : Nat → Prop} {Q : State → Prop} (G : va_G) (cy : Nat → ClassId) (fu : Nat) (mq : Nat → Nat) (v_row : Nat → Int32) (m_hosts : Int32) (m_lost : Nat → Int32) (m_late : Nat → Int32) (m_wait : Nat → Int32) (m_per : Nat → Int32) (m_blocks : Nat → Int32) (m_sends : Nat → Int32) (m_many : Int32) (m_madeMany : Int32) (m_lacking : Int32) (m_thrown : Int32) (m_now : Nat → Int32) (m_ahead : Nat → Int32) (m_then : Nat → Int32) (m_time : Nat → Int32) (m_timeThen : Nat → Int32) (m_isThere : Nat → Int32) (m_comes : Nat → Int32) (x2 : Int32) (X : zX p s m args meth c RX9 cX9_ticksOf 8 wsX9_ticksOf G cy A) : ∀ (n : Nat) (x3 : Int32) (x4 : Int32) (rr : Int32) (h : lp (f_X9_ticksOf_l5 fu v_row m_wait m_per x2) n (x3, x4) = some rr) (H : Heap) (locs : List Loc) (ls : Array Slot) (hH : zH G A s.heap (wM cy mq m_hosts m_lost m_late m_wait m_per m_blocks m_sends m_many v_row m_madeMany m_lacking m_thrown m_now m_ahead m_then m_time m_timeThen m_isThere m_comes) H locs) (hl : lv_has ls 8 [(0, .ref (mq 0)), (1, .ref (mq 7)), (2, .int x2), (3, .int x3), (4, .int x4)]) (K0 : ∀ (H : Heap) (locs : List Loc) (ls : Array Slot), zH G A s.heap (wM cy mq m_hosts m_lost m_late m_wait m_per m_blocks m_sends m_many v_row m_madeMany m_lacking m_thrown m_now m_ahead m_then m_time m_timeThen m_isThere m_comes) H locs → lv_has ls 8 [(3, .int rr)] → W p l e (zR 2 50) s m args below meth c H locs 0 0 Q (F0 m 85 ls [])), W p l e (zR 2 50) s m args below meth c H locs 0 0 Q (F0 m 5 ls []) := by
  have hx := X.1.1
  have hb := X.1.2.1
  intro n
  induction n with
  | zero => intro x3 x4 rr h H locs ls hH hl K0; cases h
  | succ n ih =>
    intro x3 x4 rr h H locs ls hH hl K0
    replace h : f_X9_ticksOf_l5 fu v_row m_wait m_per x2 (lp (f_X9_ticksOf_l5 fu v_row m_wait m_per x2) n) (x3, x4) = some rr := h
    dsimp only [f_X9_ticksOf_l5] at h
    refine lv_iload (pc := 5) hx hb dX9_ticksOf_5 (lv_at hl 4 rfl) ?_
    refine lv_aload_n (pc := 7) hx hb dX9_ticksOf_7 rfl (lv_at hl 1 rfl) ?_
    refine lv_iload_n (pc := 8) hx hb dX9_ticksOf_8 rfl (lv_at hl 2 rfl) ?_
    obtain ⟨zr1, hzr1, h⟩ := zb h
    refine zcS (pc := 9) (As := [.ref (mq 7), .int x2]) (rest := [.int x4]) (st1 := [.int zr1, .int x4]) (ws' := wM cy mq m_hosts m_lost m_late m_wait m_per m_blocks m_sends m_many v_row m_madeMany m_lacking m_thrown m_now m_ahead m_then m_time m_timeThen m_isThere m_comes) (wr := [((mq 0), .inr (8, [.int m_hosts, .ref (mq 1), .ref (mq 2), .ref (mq 3), .ref (mq 4), .ref (mq 5), .ref (mq 6), .int m_many, .ref (mq 7), .int m_madeMany, .int m_lacking, .int m_thrown, .ref (mq 8), .ref (mq 9), .ref (mq 10), .ref (mq 11), .ref (mq 12), .ref (mq 13), .ref (mq 14)])), ((mq 1), .inl (cy 2, 16, .inl m_lost)), ((mq 2), .inl (cy 0, 16, .inl m_late)), ((mq 3), .inl (cy 0, 256, .inl m_wait)), ((mq 4), .inl (cy 0, 256, .inl m_per)), ((mq 5), .inl (cy 0, 256, .inl m_blocks)), ((mq 6), .inl (cy 0, 7200, .inl m_sends)), ((mq 8), .inl (cy 3, 65536, .inl m_now)), ((mq 9), .inl (cy 3, 65536, .inl m_ahead)), ((mq 10), .inl (cy 0, 256, .inl m_then)), ((mq 11), .inl (cy 0, 16, .inl m_time)), ((mq 12), .inl (cy 0, 16, .inl m_timeThen)), ((mq 13), .inl (cy 2, 256, .inl m_isThere)), ((mq 14), .inl (cy 2, 256, .inl m_comes))]) (n := 2) X (c_X9_stepsOf l G cy fu (mq 7) v_row x2 zr1 hzr1) hH [7] [0, 1, 2, 3, 4, 5, 6, 8, 9, 10, 11, 12, 13, 14] [0, 1, 2, 3, 4, 5, 6, 14, 7, 8, 9, 10, 11, 12, 13] rfl rfl rfl rfl gX9_ticksOf_X9_stepsOf rfl ⟨rfl, rfl⟩ kX9_stepsOf ⟨Nat.le_of_ble_eq_true rfl, Nat.le_of_ble_eq_true rfl⟩ rfl rfl rfl hl.1 (Nat.le_of_ble_eq_true rfl) ⟨Nat.le_of_ble_eq_true rfl, Nat.le_of_ble_eq_true rfl⟩ dX9_ticksOf_9 (fun H locs hH => ?_)
    refine lv_icmp_ge (pc := 12) (tgt := 85) hx hb dX9_ticksOf_12 rfl (fun zc2 => ?_) (fun zc2 => ?_)
    · have h := zt zc2 h
      obtain rfl := Option.some.inj h
      exact K0 _ _ _ hH (lv_sub hl [3] rfl)
    have h := zf zc2 h
    refine lv_iconst (v := 0) (pc := 15) hx hb dX9_ticksOf_15 zk_c0 ?_
    refine lv_istore (pc := 16) (lv' := [(5, .int 0), (0, .ref (mq 0)), (1, .ref (mq 7)), (2, .int x2), (3, .int x3), (4, .int x4)]) hx hb dX9_ticksOf_16 hl (by decide) rfl (fun ls hl => ?_)
    refine lv_iconst (v := 0) (pc := 18) hx hb dX9_ticksOf_18 zk_c0 ?_
    refine lv_istore (pc := 19) (lv' := [(6, .int 0), (5, .int 0), (0, .ref (mq 0)), (1, .ref (mq 7)), (2, .int x2), (3, .int x3), (4, .int x4)]) hx hb dX9_ticksOf_19 hl (by decide) rfl (fun ls hl => ?_)
    obtain ⟨zr3, hzr3, h⟩ := zb h
    refine w_X9_ticksOf_m_l21 G cy fu mq v_row m_hosts m_lost m_late m_wait m_per m_blocks m_sends m_many m_madeMany m_lacking m_thrown m_now m_ahead m_then m_time m_timeThen m_isThere m_comes x2 x3 x4 X fu 0 0 zr3 hzr3 _ _ _ hH (lv_sub hl [2, 3, 4, 5, 6, 1, 0] rfl) (fun H locs ls hH hl => ?_)
    refine lv_iload_n (pc := 74) hx hb dX9_ticksOf_74 rfl (lv_at hl 3 rfl) ?_
    refine lv_iload (pc := 75) hx hb dX9_ticksOf_75 (lv_at hl 5 rfl) ?_
    refine lv_iadd (pc := 77) hx hb dX9_ticksOf_77 ?_
    refine lv_topi (fun za4 eza4 => ?_)
    have h := vn_s h za4 eza4
    refine lv_istore_n (pc := 78) (lv' := [(3, .int za4), (0, .ref (mq 0)), (1, .ref (mq 7)), (2, .int x2), (4, .int x4), (5, .int zr3)]) hx hb dX9_ticksOf_78 rfl hl (by decide) rfl (fun ls hl => ?_)
    refine lv_iinc (pc := 79) (v := (x4 + 1)) (lv' := [(4, .int (x4 + 1)), (3, .int za4), (0, .ref (mq 0)), (1, .ref (mq 7)), (2, .int x2), (5, .int zr3)]) hx hb dX9_ticksOf_79 hl (k := 4) rfl (by rw [zk_c1]) (by decide) rfl (fun ls hl => ?_)
    refine lv_goto (pc := 82) (tgt := 5) hx hb dX9_ticksOf_82 rfl ?_
    exact ih za4 (x4 + 1) rr h _ _ _ hH (lv_sub hl [2, 3, 4, 1, 0] rfl) K0
set_option maxHeartbeats 4000000 in
set_option maxRecDepth 100000 in
theorem c_X9_ticksOf_m (l : Launch) (G : va_G) (cy : Nat → ClassId) (fu : Nat) (mq : Nat → Nat) (v_row : Nat → Int32) (m_hosts : Int32) (m_lost : Nat → Int32) (m_late : Nat → Int32) (m_wait : Nat → Int32) (m_per : Nat → Int32) (m_blocks : Nat → Int32) (m_sends : Nat → Int32) (m_many : Int32) (m_madeMany : Int32) (m_lacking : Int32) (m_thrown : Int32) (m_now : Nat → Int32) (m_ahead : Nat → Int32) (m_then : Nat → Int32) (m_time : Nat → Int32) (m_timeThen : Nat → Int32) (m_isThere : Nat → Int32) (m_comes : Nat → Int32) (x2 : Int32) (rr : Int32) (h : f_X9_ticksOf fu v_row m_wait m_per x2 = some rr) : zM l G cy yX9_ticksOf wsX9_ticksOf (zR 2 50) [.ref (mq 0), .ref (mq 7), .int x2] (wM cy mq m_hosts m_lost m_late m_wait m_per m_blocks m_sends m_many v_row m_madeMany m_lacking m_thrown m_now m_ahead m_then m_time m_timeThen m_isThere m_comes) (wM cy mq m_hosts m_lost m_late m_wait m_per m_blocks m_sends m_many v_row m_madeMany m_lacking m_thrown m_now m_ahead m_then m_time m_timeThen m_isThere m_comes) (some (.int rr)) := by
  refine zM.mk (cc := cX9_ticksOf) (nL := 8) (ret := (some .int)) (by decide) rfl (Nat.le_of_ble_eq_true rfl) ?_
  intro p e s m below meth c A ls X hr hH hl
  replace X : zX p s m [.ref (mq 0), .ref (mq 7), .int x2].toArray meth c RX9 cX9_ticksOf 8 wsX9_ticksOf G cy A := X
  have hx := X.1.1
  have hb := X.1.2.1
  replace hl : lv_has ls 8 [(0, .ref (mq 0)), (1, .ref (mq 7)), (2, .int x2)] := hl
  dsimp only [f_X9_ticksOf] at h
  refine lv_iconst (v := 0) (pc := 0) hx hb dX9_ticksOf_0 zk_c0 ?_
  refine lv_istore_n (pc := 1) (lv' := [(3, .int 0), (0, .ref (mq 0)), (1, .ref (mq 7)), (2, .int x2)]) hx hb dX9_ticksOf_1 rfl hl (by decide) rfl (fun ls hl => ?_)
  refine lv_iconst (v := 0) (pc := 2) hx hb dX9_ticksOf_2 zk_c0 ?_
  refine lv_istore (pc := 3) (lv' := [(4, .int 0), (3, .int 0), (0, .ref (mq 0)), (1, .ref (mq 7)), (2, .int x2)]) hx hb dX9_ticksOf_3 hl (by decide) rfl (fun ls hl => ?_)
  obtain ⟨zr1, hzr1, h⟩ := zb h
  refine w_X9_ticksOf_m_l5 G cy fu mq v_row m_hosts m_lost m_late m_wait m_per m_blocks m_sends m_many m_madeMany m_lacking m_thrown m_now m_ahead m_then m_time m_timeThen m_isThere m_comes x2 X fu 0 0 zr1 hzr1 _ _ _ hH (lv_sub hl [2, 3, 4, 1, 0] rfl) (fun H locs ls hH hl => ?_)
  refine lv_iload_n (pc := 85) hx hb dX9_ticksOf_85 rfl (lv_at hl 0 rfl) ?_
  obtain rfl := Option.some.inj h
  exact z_iret X hr hH dX9_ticksOf_86
set_option maxHeartbeats 4000000 in
set_option maxRecDepth 100000 in
theorem c_X9_ticks (l : Launch) (G : va_G) (cy : Nat → ClassId) (fu : Nat) (mq : Nat → Nat) (m_hosts : Int32) (m_lost : Nat → Int32) (m_late : Nat → Int32) (m_wait : Nat → Int32) (m_per : Nat → Int32) (m_blocks : Nat → Int32) (m_sends : Nat → Int32) (m_many : Int32) (m_made : Nat → Int32) (m_madeMany : Int32) (m_lacking : Int32) (m_thrown : Int32) (m_now : Nat → Int32) (m_ahead : Nat → Int32) (m_then : Nat → Int32) (m_time : Nat → Int32) (m_timeThen : Nat → Int32) (m_isThere : Nat → Int32) (m_comes : Nat → Int32)  (rr : Int32 × Int32) (h : f_X9_ticks fu m_wait m_per m_sends m_many = some rr) : zM l G cy yX9_ticks wsX9_ticks (zR 3 77) [.ref (mq 0)] (wM cy mq m_hosts m_lost m_late m_wait m_per m_blocks m_sends m_many m_made m_madeMany m_lacking m_thrown m_now m_ahead m_then m_time m_timeThen m_isThere m_comes) (wM cy mq m_hosts m_lost m_late m_wait m_per m_blocks m_sends m_many m_made m_madeMany m_lacking rr.2 m_now m_ahead m_then m_time m_timeThen m_isThere m_comes) (some (.int rr.1)) := by
  refine zM.mk (cc := cX9_ticks) (nL := 1) (ret := (some .int)) (by decide) rfl (Nat.le_of_ble_eq_true rfl) ?_
  intro p e s m below meth c A ls X hr hH hl
  replace X : zX p s m [.ref (mq 0)].toArray meth c RX9 cX9_ticks 1 wsX9_ticks G cy A := X
  have hx := X.1.1
  have hb := X.1.2.1
  replace hl : lv_has ls 1 [(0, .ref (mq 0))] := hl
  dsimp only [f_X9_ticks] at h
  refine lv_aload_n (pc := 0) hx hb dX9_ticks_0 rfl (lv_at hl 0 rfl) ?_
  refine lv_iconst (v := 0) (pc := 1) hx hb dX9_ticks_1 zk_c0 ?_
  refine z_put (pc := 2) (v := .int 0) (ws' := wM cy mq m_hosts m_lost m_late m_wait m_per m_blocks m_sends m_many m_made m_madeMany m_lacking 0 m_now m_ahead m_then m_time m_timeThen m_isThere m_comes) X iX9_ticks_X9 tyX9 tyX9_ok nmX9 hH 0 rfl rfl 11 rfl (List.mem_of_getElem? (i := 1) rfl) rfl rfl rfl rfl rfl dX9_ticks_2 (fun H locs hH => ?_)
  refine lv_aload_n (pc := 5) hx hb dX9_ticks_5 rfl (lv_at hl 0 rfl) ?_
  refine lv_aload_n (pc := 6) hx hb dX9_ticks_6 rfl (lv_at hl 0 rfl) ?_
  refine z_get (pc := 7) (v := .ref (mq 6)) X iX9_ticks_X9 hH 0 rfl rfl 6 rfl (List.mem_of_getElem? (i := 2) rfl) rfl dX9_ticks_7 ?_
  refine lv_aload_n (pc := 10) hx hb dX9_ticks_10 rfl (lv_at hl 0 rfl) ?_
  refine z_get (pc := 11) (v := .int m_many) X iX9_ticks_X9 hH 0 rfl rfl 7 rfl (List.mem_of_getElem? (i := 3) rfl) rfl dX9_ticks_11 ?_
  obtain ⟨zr1, hzr1, h⟩ := zb h
  refine zcV (pc := 14) (As := [.ref (mq 6), .int m_many]) (rest := []) (st1 := [.int zr1]) (ws' := wM cy mq m_hosts m_lost m_late m_wait m_per m_blocks m_sends m_many m_made m_madeMany m_lacking 0 m_now m_ahead m_then m_time m_timeThen m_isThere m_comes) (wr := []) (n := 2) (q0 := 0) X (c_X9_ticksOf_s l G cy fu mq m_sends m_hosts m_lost m_late m_wait m_per m_blocks m_many m_made m_madeMany m_lacking 0 m_now m_ahead m_then m_time m_timeThen m_isThere m_comes m_many zr1 hzr1) hH [0, 1, 2, 3, 4, 5, 6, 7, 8, 9, 10, 11, 12, 13, 14] [] [0, 1, 2, 3, 4, 5, 6, 7, 8, 9, 10, 11, 12, 13, 14] rfl rfl rfl rfl gX9_ticks_X9_ticksOf rfl ⟨rfl, rfl⟩ kX9_ticksOf ⟨Nat.le_of_ble_eq_true rfl, Nat.le_of_ble_eq_true rfl⟩ rfl rfl rfl rfl rfl hl.1 (Nat.le_of_ble_eq_true rfl) ⟨Nat.le_of_ble_eq_true rfl, Nat.le_of_ble_eq_true rfl⟩ dX9_ticks_14 (fun H locs hH => ?_)
  obtain rfl := Option.some.inj h
  exact z_iret X hr hH dX9_ticks_17
set_option maxHeartbeats 4000000 in
set_option maxRecDepth 100000 in
theorem w_X9_freely_l17 {p : Program} {l : Launch} {e : Env} {s : State} {m : MethodId} {args : Array Value} {below : List Frame} {meth : Method} {c : Code} {A : Nat → Prop} {Q : State → Prop} (G : va_G) (cy : Nat → ClassId) (fu : Nat) (mq : Nat → Nat) (m_hosts : Int32) (m_lost : Nat → Int32) (m_late : Nat → Int32) (m_wait : Nat → Int32) (m_per : Nat → Int32) (m_blocks : Nat → Int32) (m_sends : Nat → Int32) (m_many : Int32) (m_made : Nat → Int32) (m_madeMany : Int32) (m_lacking : Int32) (m_thrown : Int32) (m_now : Nat → Int32) (m_ahead : Nat → Int32) (m_then : Nat → Int32) (m_timeThen : Nat → Int32) (m_isThere : Nat → Int32) (m_comes : Nat → Int32) (x1 : Int32) (X : zX p s m args meth c RX9 cX9_freely 7 wsX9_freely G cy A) : ∀ (n : Nat) (x2 : Int32) (m_time : Nat → Int32) (rr : (Nat → Int32)) (h : lp (f_X9_freely_l17 fu m_late) n (x2, m_time) = some rr) (H : Heap) (locs : List Loc) (ls : Array Slot) (hH : zH G A s.heap (wM cy mq m_hosts m_lost m_late m_wait m_per m_blocks m_sends m_many m_made m_madeMany m_lacking m_thrown m_now m_ahead m_then m_time m_timeThen m_isThere m_comes) H locs) (hl : lv_has ls 7 [(0, .ref (mq 0)), (1, .int x1), (2, .int x2)]) (K0 : ∀ (H : Heap) (locs : List Loc) (ls : Array Slot), zH G A s.heap (wM cy mq m_hosts m_lost m_late m_wait m_per m_blocks m_sends m_many m_made m_madeMany m_lacking m_thrown m_now m_ahead m_then rr m_timeThen m_isThere m_comes) H locs → lv_has ls 7 [(0, .ref (mq 0)), (1, .int x1)] → W p l e (zR 3 64) s m args below meth c H locs 0 0 Q (F0 m 41 ls [])), W p l e (zR 3 64) s m args below meth c H locs 0 0 Q (F0 m 17 ls []) := by
  have hx := X.1.1
  have hb := X.1.2.1
  intro n
  induction n with
  | zero => intro x2 m_time rr h H locs ls hH hl K0; cases h
  | succ n ih =>
    intro x2 m_time rr h H locs ls hH hl K0
    replace h : f_X9_freely_l17 fu m_late (lp (f_X9_freely_l17 fu m_late) n) (x2, m_time) = some rr := h
    dsimp only [f_X9_freely_l17] at h
    refine lv_iload_n (pc := 17) hx hb dX9_freely_17 rfl (lv_at hl 2 rfl) ?_
    refine lv_bipush (v := 16) (pc := 18) hx hb dX9_freely_18 zk_b16 ?_
    refine lv_icmp_ge (pc := 20) (tgt := 41) hx hb dX9_freely_20 rfl (fun zc1 => ?_) (fun zc1 => ?_)
    · have h := zt zc1 h
      obtain rfl := Option.some.inj h
      exact K0 _ _ _ hH (lv_sub hl [0, 1] rfl)
    have h := zf zc1 h
    refine lv_aload_n (pc := 23) hx hb dX9_freely_23 rfl (lv_at hl 0 rfl) ?_
    refine z_get (pc := 24) (v := .ref (mq 11)) X iX9_freely_X9 hH 0 rfl rfl 15 rfl (List.mem_of_getElem? (i := 2) rfl) rfl dX9_freely_24 ?_
    refine lv_iload_n (pc := 27) hx hb dX9_freely_27 rfl (lv_at hl 2 rfl) ?_
    refine lv_aload_n (pc := 28) hx hb dX9_freely_28 rfl (lv_at hl 0 rfl) ?_
    refine z_get (pc := 29) (v := .ref (mq 2)) X iX9_freely_X9 hH 0 rfl rfl 2 rfl (List.mem_of_getElem? (i := 3) rfl) rfl dX9_freely_29 ?_
    refine lv_iload_n (pc := 32) hx hb dX9_freely_32 rfl (lv_at hl 2 rfl) ?_
    obtain ⟨hin, h⟩ := zg h
    refine z_iald (pc := 33) X hH 2 rfl hin dX9_freely_33 ?_
    obtain ⟨hin, h⟩ := zg h
    refine z_iast (pc := 34) (ws' := wM cy mq m_hosts m_lost m_late m_wait m_per m_blocks m_sends m_many m_made m_madeMany m_lacking m_thrown m_now m_ahead m_then (upd m_time (x2).toNatClampNeg (m_late (x2).toNatClampNeg)) m_timeThen m_isThere m_comes) X hH 11 rfl hin rfl dX9_freely_34 (fun H locs hH => ?_)
    refine lv_iinc (pc := 35) (v := (x2 + 1)) (lv' := [(2, .int (x2 + 1)), (0, .ref (mq 0)), (1, .int x1)]) hx hb dX9_freely_35 hl (k := 2) rfl (by rw [zk_c1]) (by decide) rfl (fun ls hl => ?_)
    refine lv_goto (pc := 38) (tgt := 17) hx hb dX9_freely_38 rfl ?_
    exact ih (x2 + 1) (upd m_time (x2).toNatClampNeg (m_late (x2).toNatClampNeg)) rr h _ _ _ hH (lv_sub hl [1, 2, 0] rfl) K0
set_option maxHeartbeats 4000000 in
set_option maxRecDepth 100000 in
theorem w_X9_freely_l64 {p : Program} {l : Launch} {e : Env} {s : State} {m : MethodId} {args : Array Value} {below : List Frame} {meth : Method} {c : Code} {A : Nat → Prop} {Q : State → Prop} (G : va_G) (cy : Nat → ClassId) (fu : Nat) (mq : Nat → Nat) (m_hosts : Int32) (m_lost : Nat → Int32) (m_late : Nat → Int32) (m_wait : Nat → Int32) (m_per : Nat → Int32) (m_blocks : Nat → Int32) (m_sends : Nat → Int32) (m_many : Int32) (m_made : Nat → Int32) (m_madeMany : Int32) (m_lacking : Int32) (m_thrown : Int32) (m_now : Nat → Int32) (m_ahead : Nat → Int32) (m_then : Nat → Int32) (m_time : Nat → Int32) (m_isThere : Nat → Int32) (m_comes : Nat → Int32) (x1 : Int32) (x2 : Int32) (x3 : Int32) (X : zX p s m args meth c RX9 cX9_freely 7 wsX9_freely G cy A) : ∀ (n : Nat) (x4 : Int32) (m_timeThen : Nat → Int32) (rr : (Nat → Int32)) (h : lp (f_X9_freely_l64 fu m_time) n (x4, m_timeThen) = some rr) (H : Heap) (locs : List Loc) (ls : Array Slot) (hH : zH G A s.heap (wM cy mq m_hosts m_lost m_late m_wait m_per m_blocks m_sends m_many m_made m_madeMany m_lacking m_thrown m_now m_ahead m_then m_time m_timeThen m_isThere m_comes) H locs) (hl : lv_has ls 7 [(0, .ref (mq 0)), (1, .int x1), (2, .int x2), (3, .int x3), (4, .int x4)]) (K0 : ∀ (H : Heap) (locs : List Loc) (ls : Array Slot), zH G A s.heap (wM cy mq m_hosts m_lost m_late m_wait m_per m_blocks m_sends m_many m_made m_madeMany m_lacking m_thrown m_now m_ahead m_then m_time rr m_isThere m_comes) H locs → lv_has ls 7 [(0, .ref (mq 0)), (1, .int x1), (2, .int x2), (3, .int x3)] → W p l e (zR 3 64) s m args below meth c H locs 0 0 Q (F0 m 91 ls [])), W p l e (zR 3 64) s m args below meth c H locs 0 0 Q (F0 m 64 ls []) := by
  have hx := X.1.1
  have hb := X.1.2.1
  intro n
  induction n with
  | zero => intro x4 m_timeThen rr h H locs ls hH hl K0; cases h
  | succ n ih =>
    intro x4 m_timeThen rr h H locs ls hH hl K0
    replace h : f_X9_freely_l64 fu m_time (lp (f_X9_freely_l64 fu m_time) n) (x4, m_timeThen) = some rr := h
    dsimp only [f_X9_freely_l64] at h
    refine lv_iload (pc := 64) hx hb dX9_freely_64 (lv_at hl 4 rfl) ?_
    refine lv_bipush (v := 16) (pc := 66) hx hb dX9_freely_66 zk_b16 ?_
    refine lv_icmp_ge (pc := 68) (tgt := 91) hx hb dX9_freely_68 rfl (fun zc1 => ?_) (fun zc1 => ?_)
    · have h := zt zc1 h
      obtain rfl := Option.some.inj h
      exact K0 _ _ _ hH (lv_sub hl [0, 1, 2, 3] rfl)
    have h := zf zc1 h
    refine lv_aload_n (pc := 71) hx hb dX9_freely_71 rfl (lv_at hl 0 rfl) ?_
    refine z_get (pc := 72) (v := .ref (mq 12)) X iX9_freely_X9 hH 0 rfl rfl 16 rfl (List.mem_of_getElem? (i := 6) rfl) rfl dX9_freely_72 ?_
    refine lv_iload (pc := 75) hx hb dX9_freely_75 (lv_at hl 4 rfl) ?_
    refine lv_aload_n (pc := 77) hx hb dX9_freely_77 rfl (lv_at hl 0 rfl) ?_
    refine z_get (pc := 78) (v := .ref (mq 11)) X iX9_freely_X9 hH 0 rfl rfl 15 rfl (List.mem_of_getElem? (i := 2) rfl) rfl dX9_freely_78 ?_
    refine lv_iload (pc := 81) hx hb dX9_freely_81 (lv_at hl 4 rfl) ?_
    obtain ⟨hin, h⟩ := zg h
    refine z_iald (pc := 83) X hH 11 rfl hin dX9_freely_83 ?_
    obtain ⟨hin, h⟩ := zg h
    refine z_iast (pc := 84) (ws' := wM cy mq m_hosts m_lost m_late m_wait m_per m_blocks m_sends m_many m_made m_madeMany m_lacking m_thrown m_now m_ahead m_then m_time (upd m_timeThen (x4).toNatClampNeg (m_time (x4).toNatClampNeg)) m_isThere m_comes) X hH 12 rfl hin rfl dX9_freely_84 (fun H locs hH => ?_)
    refine lv_iinc (pc := 85) (v := (x4 + 1)) (lv' := [(4, .int (x4 + 1)), (0, .ref (mq 0)), (1, .int x1), (2, .int x2), (3, .int x3)]) hx hb dX9_freely_85 hl (k := 4) rfl (by rw [zk_c1]) (by decide) rfl (fun ls hl => ?_)
    refine lv_goto (pc := 88) (tgt := 64) hx hb dX9_freely_88 rfl ?_
    exact ih (x4 + 1) (upd m_timeThen (x4).toNatClampNeg (m_time (x4).toNatClampNeg)) rr h _ _ _ hH (lv_sub hl [1, 2, 3, 4, 0] rfl) K0
set_option maxHeartbeats 4000000 in
set_option maxRecDepth 100000 in
theorem w_X9_freely_l91 {p : Program} {l : Launch} {e : Env} {s : State} {m : MethodId} {args : Array Value} {below : List Frame} {meth : Method} {c : Code} {A : Nat → Prop} {Q : State → Prop} (G : va_G) (cy : Nat → ClassId) (fu : Nat) (mq : Nat → Nat) (m_hosts : Int32) (m_lost : Nat → Int32) (m_late : Nat → Int32) (m_wait : Nat → Int32) (m_per : Nat → Int32) (m_blocks : Nat → Int32) (m_sends : Nat → Int32) (m_many : Int32) (m_made : Nat → Int32) (m_madeMany : Int32) (m_lacking : Int32) (m_thrown : Int32) (m_now : Nat → Int32) (m_ahead : Nat → Int32) (m_then : Nat → Int32) (m_timeThen : Nat → Int32) (m_isThere : Nat → Int32) (m_comes : Nat → Int32) (x1 : Int32) (x3 : Int32) (X : zX p s m args meth c RX9 cX9_freely 7 wsX9_freely G cy A) : ∀ (n : Nat) (x2 : Int32) (m_time : Nat → Int32) (rr : Int32 × (Nat → Int32)) (h : lp (f_X9_freely_l91 fu m_wait m_per m_sends m_many m_timeThen x3) n (x2, m_time) = some rr) (H : Heap) (locs : List Loc) (ls : Array Slot) (hH : zH G A s.heap (wM cy mq m_hosts m_lost m_late m_wait m_per m_blocks m_sends m_many m_made m_madeMany m_lacking m_thrown m_now m_ahead m_then m_time m_timeThen m_isThere m_comes) H locs) (hl : lv_has ls 7 [(0, .ref (mq 0)), (1, .int x1), (2, .int x2), (3, .int x3)]) (K0 : ∀ (H : Heap) (locs : List Loc) (ls : Array Slot), zH G A s.heap (wM cy mq m_hosts m_lost m_late m_wait m_per m_blocks m_sends m_many m_made m_madeMany m_lacking m_thrown m_now m_ahead m_then rr.2 m_timeThen m_isThere m_comes) H locs → lv_has ls 7 [(0, .ref (mq 0)), (1, .int x1), (2, .int rr.1)] → W p l e (zR 3 64) s m args below meth c H locs 0 0 Q (F0 m 256 ls [])), W p l e (zR 3 64) s m args below meth c H locs 0 0 Q (F0 m 91 ls []) := by
  have hx := X.1.1
  have hb := X.1.2.1
  intro n
  induction n with
  | zero => intro x2 m_time rr h H locs ls hH hl K0; cases h
  | succ n ih =>
    intro x2 m_time rr h H locs ls hH hl K0
    replace h : f_X9_freely_l91 fu m_wait m_per m_sends m_many m_timeThen x3 (lp (f_X9_freely_l91 fu m_wait m_per m_sends m_many m_timeThen x3) n) (x2, m_time) = some rr := h
    dsimp only [f_X9_freely_l91] at h
    refine lv_iload_n (pc := 91) hx hb dX9_freely_91 rfl (lv_at hl 2 rfl) ?_
    refine lv_aload_n (pc := 92) hx hb dX9_freely_92 rfl (lv_at hl 0 rfl) ?_
    refine z_get (pc := 93) (v := .int m_many) X iX9_freely_X9 hH 0 rfl rfl 7 rfl (List.mem_of_getElem? (i := 4) rfl) rfl dX9_freely_93 ?_
    refine lv_icmp_ge (pc := 96) (tgt := 256) hx hb dX9_freely_96 rfl (fun zc1 => ?_) (fun zc1 => ?_)
    · have h := zt zc1 h
      obtain rfl := Option.some.inj h
      exact K0 _ _ _ hH (lv_sub hl [0, 1, 2] rfl)
    have h := zf zc1 h
    refine lv_aload_n (pc := 99) hx hb dX9_freely_99 rfl (lv_at hl 0 rfl) ?_
    refine z_get (pc := 100) (v := .ref (mq 6)) X iX9_freely_X9 hH 0 rfl rfl 6 rfl (List.mem_of_getElem? (i := 5) rfl) rfl dX9_freely_100 ?_
    refine lv_bipush (v := 6) (pc := 103) hx hb dX9_freely_103 zk_b6 ?_
    refine lv_iload_n (pc := 105) hx hb dX9_freely_105 rfl (lv_at hl 2 rfl) ?_
    refine lv_imul (pc := 106) hx hb dX9_freely_106 ?_
    obtain ⟨hin, h⟩ := zg h
    refine z_iald (pc := 107) X hH 6 rfl hin dX9_freely_107 ?_
    refine lv_iload_n (pc := 108) hx hb dX9_freely_108 rfl (lv_at hl 3 rfl) ?_
    refine lv_icmp_ne (pc := 109) (tgt := 256) hx hb dX9_freely_109 rfl (fun zc2 => ?_) (fun zc2 => ?_)
    · have h := zf zc2 h
      obtain rfl := Option.some.inj h
      exact K0 _ _ _ hH (lv_sub hl [0, 1, 2] rfl)
    have h := zt zc2 h
    refine lv_aload_n (pc := 112) hx hb dX9_freely_112 rfl (lv_at hl 0 rfl) ?_
    refine z_get (pc := 113) (v := .ref (mq 6)) X iX9_freely_X9 hH 0 rfl rfl 6 rfl (List.mem_of_getElem? (i := 5) rfl) rfl dX9_freely_113 ?_
    refine lv_bipush (v := 6) (pc := 116) hx hb dX9_freely_116 zk_b6 ?_
    refine lv_iload_n (pc := 118) hx hb dX9_freely_118 rfl (lv_at hl 2 rfl) ?_
    refine lv_imul (pc := 119) hx hb dX9_freely_119 ?_
    refine lv_iconst (v := 1) (pc := 120) hx hb dX9_freely_120 zk_c1 ?_
    refine lv_iadd (pc := 121) hx hb dX9_freely_121 ?_
    obtain ⟨hin, h⟩ := zg h
    refine z_iald (pc := 122) X hH 6 rfl hin dX9_freely_122 ?_
    refine lv_topi (fun za3 eza3 => ?_)
    have h := vn_s h za3 eza3
    refine lv_istore (pc := 123) (lv' := [(4, .int za3), (0, .ref (mq 0)), (1, .int x1), (2, .int x2), (3, .int x3)]) hx hb dX9_freely_123 hl (by decide) rfl (fun ls hl => ?_)
    refine lv_aload_n (pc := 125) hx hb dX9_freely_125 rfl (lv_at hl 1 rfl) ?_
    refine z_get (pc := 126) (v := .ref (mq 6)) X iX9_freely_X9 hH 0 rfl rfl 6 rfl (List.mem_of_getElem? (i := 5) rfl) rfl dX9_freely_126 ?_
    refine lv_bipush (v := 6) (pc := 129) hx hb dX9_freely_129 zk_b6 ?_
    refine lv_iload_n (pc := 131) hx hb dX9_freely_131 rfl (lv_at hl 3 rfl) ?_
    refine lv_imul (pc := 132) hx hb dX9_freely_132 ?_
    refine lv_iconst (v := 2) (pc := 133) hx hb dX9_freely_133 zk_c2 ?_
    refine lv_iadd (pc := 134) hx hb dX9_freely_134 ?_
    obtain ⟨hin, h⟩ := zg h
    refine z_iald (pc := 135) X hH 6 rfl hin dX9_freely_135 ?_
    refine lv_topi (fun za4 eza4 => ?_)
    have h := vn_s h za4 eza4
    refine lv_istore (pc := 136) (lv' := [(5, .int za4), (4, .int za3), (0, .ref (mq 0)), (1, .int x1), (2, .int x2), (3, .int x3)]) hx hb dX9_freely_136 hl (by decide) rfl (fun ls hl => ?_)
    refine lv_aload_n (pc := 138) hx hb dX9_freely_138 rfl (lv_at hl 2 rfl) ?_
    refine z_get (pc := 139) (v := .ref (mq 12)) X iX9_freely_X9 hH 0 rfl rfl 16 rfl (List.mem_of_getElem? (i := 6) rfl) rfl dX9_freely_139 ?_
    refine lv_iload (pc := 142) hx hb dX9_freely_142 (lv_at hl 1 rfl) ?_
    obtain ⟨hin, h⟩ := zg h
    refine z_iald (pc := 144) X hH 12 rfl hin dX9_freely_144 ?_
    refine lv_aload_n (pc := 145) hx hb dX9_freely_145 rfl (lv_at hl 2 rfl) ?_
    refine z_get (pc := 146) (v := .ref (mq 12)) X iX9_freely_X9 hH 0 rfl rfl 16 rfl (List.mem_of_getElem? (i := 6) rfl) rfl dX9_freely_146 ?_
    refine lv_iload (pc := 149) hx hb dX9_freely_149 (lv_at hl 0 rfl) ?_
    obtain ⟨hin, h⟩ := zg h
    refine z_iald (pc := 151) X hH 12 rfl hin dX9_freely_151 ?_
    refine lv_icmp_le (pc := 152) (tgt := 165) hx hb dX9_freely_152 rfl (fun zc5 => ?_) (fun zc5 => ?_)
    · have h := zt zc5 h
      refine lv_aload_n (pc := 165) hx hb dX9_freely_165 rfl (lv_at hl 2 rfl) ?_
      refine z_get (pc := 166) (v := .ref (mq 12)) X iX9_freely_X9 hH 0 rfl rfl 16 rfl (List.mem_of_getElem? (i := 6) rfl) rfl dX9_freely_166 ?_
      refine lv_iload (pc := 169) hx hb dX9_freely_169 (lv_at hl 0 rfl) ?_
      obtain ⟨hin, h⟩ := zg h
      refine z_iald (pc := 171) X hH 12 rfl hin dX9_freely_171 ?_
      refine lv_aload_n (pc := 172) hx hb dX9_freely_172 rfl (lv_at hl 2 rfl) ?_
      refine lv_aload_n (pc := 173) hx hb dX9_freely_173 rfl (lv_at hl 2 rfl) ?_
      refine z_get (pc := 174) (v := .ref (mq 6)) X iX9_freely_X9 hH 0 rfl rfl 6 rfl (List.mem_of_getElem? (i := 5) rfl) rfl dX9_freely_174 ?_
      refine lv_aload_n (pc := 177) hx hb dX9_freely_177 rfl (lv_at hl 2 rfl) ?_
      refine z_get (pc := 178) (v := .int m_many) X iX9_freely_X9 hH 0 rfl rfl 7 rfl (List.mem_of_getElem? (i := 4) rfl) rfl dX9_freely_178 ?_
      refine lv_iload_n (pc := 181) hx hb dX9_freely_181 rfl (lv_at hl 4 rfl) ?_
      obtain ⟨zr6, hzr6, h⟩ := zb h
      refine zcV (pc := 182) (As := [.ref (mq 6), .int m_many, .int x2]) (rest := [.int (m_timeThen (za4).toNatClampNeg)]) (st1 := [.int zr6, .int (m_timeThen (za4).toNatClampNeg)]) (ws' := wM cy mq m_hosts m_lost m_late m_wait m_per m_blocks m_sends m_many m_made m_madeMany m_lacking m_thrown m_now m_ahead m_then m_time m_timeThen m_isThere m_comes) (wr := []) (n := 3) (q0 := 0) X (c_X9_timeOf_s l G cy fu mq m_sends m_hosts m_lost m_late m_wait m_per m_blocks m_many m_made m_madeMany m_lacking m_thrown m_now m_ahead m_then m_time m_timeThen m_isThere m_comes m_many x2 zr6 hzr6) hH [0, 1, 2, 3, 4, 5, 6, 7, 8, 9, 10, 11, 12, 13, 14] [] [0, 1, 2, 3, 4, 5, 6, 7, 8, 9, 10, 11, 12, 13, 14] rfl rfl rfl rfl gX9_freely_X9_timeOf rfl ⟨rfl, rfl⟩ kX9_timeOf ⟨Nat.le_of_ble_eq_true rfl, Nat.le_of_ble_eq_true rfl⟩ rfl rfl rfl rfl rfl hl.1 (Nat.le_of_ble_eq_true rfl) ⟨Nat.le_of_ble_eq_true rfl, Nat.le_of_ble_eq_true rfl⟩ dX9_freely_182 (fun H locs hH => ?_)
      refine lv_iadd (pc := 185) hx hb dX9_freely_185 ?_
      refine lv_topi (fun za7 eza7 => ?_)
      have h := vn_s h za7 eza7
      refine lv_istore (pc := 186) (lv' := [(6, .int za7), (5, .int za4), (4, .int za3), (0, .ref (mq 0)), (1, .int x1), (2, .int x2), (3, .int x3)]) hx hb dX9_freely_186 hl (by decide) rfl (fun ls hl => ?_)
      refine lv_aload_n (pc := 188) hx hb dX9_freely_188 rfl (lv_at hl 3 rfl) ?_
      refine z_get (pc := 189) (v := .ref (mq 11)) X iX9_freely_X9 hH 0 rfl rfl 15 rfl (List.mem_of_getElem? (i := 2) rfl) rfl dX9_freely_189 ?_
      refine lv_iload (pc := 192) hx hb dX9_freely_192 (lv_at hl 2 rfl) ?_
      refine lv_iload (pc := 194) hx hb dX9_freely_194 (lv_at hl 0 rfl) ?_
      refine lv_aload_n (pc := 196) hx hb dX9_freely_196 rfl (lv_at hl 3 rfl) ?_
      refine z_get (pc := 197) (v := .ref (mq 11)) X iX9_freely_X9 hH 0 rfl rfl 15 rfl (List.mem_of_getElem? (i := 2) rfl) rfl dX9_freely_197 ?_
      refine lv_iload (pc := 200) hx hb dX9_freely_200 (lv_at hl 2 rfl) ?_
      obtain ⟨hin, h⟩ := zg h
      refine z_iald (pc := 202) X hH 11 rfl hin dX9_freely_202 ?_
      refine lv_icmp_le (pc := 203) (tgt := 211) hx hb dX9_freely_203 rfl (fun zc8 => ?_) (fun zc8 => ?_)
      · have h := zt zc8 h
        refine lv_aload_n (pc := 211) hx hb dX9_freely_211 rfl (lv_at hl 3 rfl) ?_
        refine z_get (pc := 212) (v := .ref (mq 11)) X iX9_freely_X9 hH 0 rfl rfl 15 rfl (List.mem_of_getElem? (i := 2) rfl) rfl dX9_freely_212 ?_
        refine lv_iload (pc := 215) hx hb dX9_freely_215 (lv_at hl 2 rfl) ?_
        obtain ⟨hin, h⟩ := zg h
        refine z_iald (pc := 217) X hH 11 rfl hin dX9_freely_217 ?_
        obtain ⟨hin, h⟩ := zg h
        refine z_iast (pc := 218) (ws' := wM cy mq m_hosts m_lost m_late m_wait m_per m_blocks m_sends m_many m_made m_madeMany m_lacking m_thrown m_now m_ahead m_then (upd m_time (za3).toNatClampNeg (m_time (za3).toNatClampNeg)) m_timeThen m_isThere m_comes) X hH 11 rfl hin rfl dX9_freely_218 (fun H locs hH => ?_)
        refine lv_aload_n (pc := 219) hx hb dX9_freely_219 rfl (lv_at hl 3 rfl) ?_
        refine z_get (pc := 220) (v := .ref (mq 11)) X iX9_freely_X9 hH 0 rfl rfl 15 rfl (List.mem_of_getElem? (i := 2) rfl) rfl dX9_freely_220 ?_
        refine lv_iload (pc := 223) hx hb dX9_freely_223 (lv_at hl 1 rfl) ?_
        refine lv_iload (pc := 225) hx hb dX9_freely_225 (lv_at hl 0 rfl) ?_
        refine lv_aload_n (pc := 227) hx hb dX9_freely_227 rfl (lv_at hl 3 rfl) ?_
        refine z_get (pc := 228) (v := .ref (mq 11)) X iX9_freely_X9 hH 0 rfl rfl 15 rfl (List.mem_of_getElem? (i := 2) rfl) rfl dX9_freely_228 ?_
        refine lv_iload (pc := 231) hx hb dX9_freely_231 (lv_at hl 1 rfl) ?_
        obtain ⟨hin, h⟩ := zg h
        refine z_iald (pc := 233) X hH 11 rfl hin dX9_freely_233 ?_
        refine lv_icmp_le (pc := 234) (tgt := 242) hx hb dX9_freely_234 rfl (fun zc9 => ?_) (fun zc9 => ?_)
        · have h := zt zc9 h
          refine lv_aload_n (pc := 242) hx hb dX9_freely_242 rfl (lv_at hl 3 rfl) ?_
          refine z_get (pc := 243) (v := .ref (mq 11)) X iX9_freely_X9 hH 0 rfl rfl 15 rfl (List.mem_of_getElem? (i := 2) rfl) rfl dX9_freely_243 ?_
          refine lv_iload (pc := 246) hx hb dX9_freely_246 (lv_at hl 1 rfl) ?_
          obtain ⟨hin, h⟩ := zg h
          refine z_iald (pc := 248) X hH 11 rfl hin dX9_freely_248 ?_
          obtain ⟨hin, h⟩ := zg h
          refine z_iast (pc := 249) (ws' := wM cy mq m_hosts m_lost m_late m_wait m_per m_blocks m_sends m_many m_made m_madeMany m_lacking m_thrown m_now m_ahead m_then (upd (upd m_time (za3).toNatClampNeg (m_time (za3).toNatClampNeg)) (za4).toNatClampNeg ((upd m_time (za3).toNatClampNeg (m_time (za3).toNatClampNeg)) (za4).toNatClampNeg)) m_timeThen m_isThere m_comes) X hH 11 rfl hin rfl dX9_freely_249 (fun H locs hH => ?_)
          refine lv_iinc (pc := 250) (v := (x2 + 1)) (lv' := [(2, .int (x2 + 1)), (6, .int za7), (5, .int za4), (4, .int za3), (0, .ref (mq 0)), (1, .int x1), (3, .int x3)]) hx hb dX9_freely_250 hl (k := 5) rfl (by rw [zk_c1]) (by decide) rfl (fun ls hl => ?_)
          refine lv_goto (pc := 253) (tgt := 91) hx hb dX9_freely_253 rfl ?_
          exact ih (x2 + 1) (upd (upd m_time (za3).toNatClampNeg (m_time (za3).toNatClampNeg)) (za4).toNatClampNeg ((upd m_time (za3).toNatClampNeg (m_time (za3).toNatClampNeg)) (za4).toNatClampNeg)) rr h _ _ _ hH (lv_sub hl [4, 5, 0, 6] rfl) K0
        have h := zf zc9 h
        refine lv_iload (pc := 237) hx hb dX9_freely_237 (lv_at hl 0 rfl) ?_
        refine lv_goto (pc := 239) (tgt := 249) hx hb dX9_freely_239 rfl ?_
        obtain ⟨hin, h⟩ := zg h
        refine z_iast (pc := 249) (ws' := wM cy mq m_hosts m_lost m_late m_wait m_per m_blocks m_sends m_many m_made m_madeMany m_lacking m_thrown m_now m_ahead m_then (upd (upd m_time (za3).toNatClampNeg (m_time (za3).toNatClampNeg)) (za4).toNatClampNeg za7) m_timeThen m_isThere m_comes) X hH 11 rfl hin rfl dX9_freely_249 (fun H locs hH => ?_)
        refine lv_iinc (pc := 250) (v := (x2 + 1)) (lv' := [(2, .int (x2 + 1)), (6, .int za7), (5, .int za4), (4, .int za3), (0, .ref (mq 0)), (1, .int x1), (3, .int x3)]) hx hb dX9_freely_250 hl (k := 5) rfl (by rw [zk_c1]) (by decide) rfl (fun ls hl => ?_)
        refine lv_goto (pc := 253) (tgt := 91) hx hb dX9_freely_253 rfl ?_
        exact ih (x2 + 1) (upd (upd m_time (za3).toNatClampNeg (m_time (za3).toNatClampNeg)) (za4).toNatClampNeg za7) rr h _ _ _ hH (lv_sub hl [4, 5, 0, 6] rfl) K0
      have h := zf zc8 h
      refine lv_iload (pc := 206) hx hb dX9_freely_206 (lv_at hl 0 rfl) ?_
      refine lv_goto (pc := 208) (tgt := 218) hx hb dX9_freely_208 rfl ?_
      obtain ⟨hin, h⟩ := zg h
      refine z_iast (pc := 218) (ws' := wM cy mq m_hosts m_lost m_late m_wait m_per m_blocks m_sends m_many m_made m_madeMany m_lacking m_thrown m_now m_ahead m_then (upd m_time (za3).toNatClampNeg za7) m_timeThen m_isThere m_comes) X hH 11 rfl hin rfl dX9_freely_218 (fun H locs hH => ?_)
      refine lv_aload_n (pc := 219) hx hb dX9_freely_219 rfl (lv_at hl 3 rfl) ?_
      refine z_get (pc := 220) (v := .ref (mq 11)) X iX9_freely_X9 hH 0 rfl rfl 15 rfl (List.mem_of_getElem? (i := 2) rfl) rfl dX9_freely_220 ?_
      refine lv_iload (pc := 223) hx hb dX9_freely_223 (lv_at hl 1 rfl) ?_
      refine lv_iload (pc := 225) hx hb dX9_freely_225 (lv_at hl 0 rfl) ?_
      refine lv_aload_n (pc := 227) hx hb dX9_freely_227 rfl (lv_at hl 3 rfl) ?_
      refine z_get (pc := 228) (v := .ref (mq 11)) X iX9_freely_X9 hH 0 rfl rfl 15 rfl (List.mem_of_getElem? (i := 2) rfl) rfl dX9_freely_228 ?_
      refine lv_iload (pc := 231) hx hb dX9_freely_231 (lv_at hl 1 rfl) ?_
      obtain ⟨hin, h⟩ := zg h
      refine z_iald (pc := 233) X hH 11 rfl hin dX9_freely_233 ?_
      refine lv_icmp_le (pc := 234) (tgt := 242) hx hb dX9_freely_234 rfl (fun zc10 => ?_) (fun zc10 => ?_)
      · have h := zt zc10 h
        refine lv_aload_n (pc := 242) hx hb dX9_freely_242 rfl (lv_at hl 3 rfl) ?_
        refine z_get (pc := 243) (v := .ref (mq 11)) X iX9_freely_X9 hH 0 rfl rfl 15 rfl (List.mem_of_getElem? (i := 2) rfl) rfl dX9_freely_243 ?_
        refine lv_iload (pc := 246) hx hb dX9_freely_246 (lv_at hl 1 rfl) ?_
        obtain ⟨hin, h⟩ := zg h
        refine z_iald (pc := 248) X hH 11 rfl hin dX9_freely_248 ?_
        obtain ⟨hin, h⟩ := zg h
        refine z_iast (pc := 249) (ws' := wM cy mq m_hosts m_lost m_late m_wait m_per m_blocks m_sends m_many m_made m_madeMany m_lacking m_thrown m_now m_ahead m_then (upd (upd m_time (za3).toNatClampNeg za7) (za4).toNatClampNeg ((upd m_time (za3).toNatClampNeg za7) (za4).toNatClampNeg)) m_timeThen m_isThere m_comes) X hH 11 rfl hin rfl dX9_freely_249 (fun H locs hH => ?_)
        refine lv_iinc (pc := 250) (v := (x2 + 1)) (lv' := [(2, .int (x2 + 1)), (6, .int za7), (5, .int za4), (4, .int za3), (0, .ref (mq 0)), (1, .int x1), (3, .int x3)]) hx hb dX9_freely_250 hl (k := 5) rfl (by rw [zk_c1]) (by decide) rfl (fun ls hl => ?_)
        refine lv_goto (pc := 253) (tgt := 91) hx hb dX9_freely_253 rfl ?_
        exact ih (x2 + 1) (upd (upd m_time (za3).toNatClampNeg za7) (za4).toNatClampNeg ((upd m_time (za3).toNatClampNeg za7) (za4).toNatClampNeg)) rr h _ _ _ hH (lv_sub hl [4, 5, 0, 6] rfl) K0
      have h := zf zc10 h
      refine lv_iload (pc := 237) hx hb dX9_freely_237 (lv_at hl 0 rfl) ?_
      refine lv_goto (pc := 239) (tgt := 249) hx hb dX9_freely_239 rfl ?_
      obtain ⟨hin, h⟩ := zg h
      refine z_iast (pc := 249) (ws' := wM cy mq m_hosts m_lost m_late m_wait m_per m_blocks m_sends m_many m_made m_madeMany m_lacking m_thrown m_now m_ahead m_then (upd (upd m_time (za3).toNatClampNeg za7) (za4).toNatClampNeg za7) m_timeThen m_isThere m_comes) X hH 11 rfl hin rfl dX9_freely_249 (fun H locs hH => ?_)
      refine lv_iinc (pc := 250) (v := (x2 + 1)) (lv' := [(2, .int (x2 + 1)), (6, .int za7), (5, .int za4), (4, .int za3), (0, .ref (mq 0)), (1, .int x1), (3, .int x3)]) hx hb dX9_freely_250 hl (k := 5) rfl (by rw [zk_c1]) (by decide) rfl (fun ls hl => ?_)
      refine lv_goto (pc := 253) (tgt := 91) hx hb dX9_freely_253 rfl ?_
      exact ih (x2 + 1) (upd (upd m_time (za3).toNatClampNeg za7) (za4).toNatClampNeg za7) rr h _ _ _ hH (lv_sub hl [4, 5, 0, 6] rfl) K0
    have h := zf zc5 h
    refine lv_aload_n (pc := 155) hx hb dX9_freely_155 rfl (lv_at hl 2 rfl) ?_
    refine z_get (pc := 156) (v := .ref (mq 12)) X iX9_freely_X9 hH 0 rfl rfl 16 rfl (List.mem_of_getElem? (i := 6) rfl) rfl dX9_freely_156 ?_
    refine lv_iload (pc := 159) hx hb dX9_freely_159 (lv_at hl 1 rfl) ?_
    obtain ⟨hin, h⟩ := zg h
    refine z_iald (pc := 161) X hH 12 rfl hin dX9_freely_161 ?_
    refine lv_goto (pc := 162) (tgt := 172) hx hb dX9_freely_162 rfl ?_
    refine lv_aload_n (pc := 172) hx hb dX9_freely_172 rfl (lv_at hl 2 rfl) ?_
    refine lv_aload_n (pc := 173) hx hb dX9_freely_173 rfl (lv_at hl 2 rfl) ?_
    refine z_get (pc := 174) (v := .ref (mq 6)) X iX9_freely_X9 hH 0 rfl rfl 6 rfl (List.mem_of_getElem? (i := 5) rfl) rfl dX9_freely_174 ?_
    refine lv_aload_n (pc := 177) hx hb dX9_freely_177 rfl (lv_at hl 2 rfl) ?_
    refine z_get (pc := 178) (v := .int m_many) X iX9_freely_X9 hH 0 rfl rfl 7 rfl (List.mem_of_getElem? (i := 4) rfl) rfl dX9_freely_178 ?_
    refine lv_iload_n (pc := 181) hx hb dX9_freely_181 rfl (lv_at hl 4 rfl) ?_
    obtain ⟨zr11, hzr11, h⟩ := zb h
    refine zcV (pc := 182) (As := [.ref (mq 6), .int m_many, .int x2]) (rest := [.int (m_timeThen (za3).toNatClampNeg)]) (st1 := [.int zr11, .int (m_timeThen (za3).toNatClampNeg)]) (ws' := wM cy mq m_hosts m_lost m_late m_wait m_per m_blocks m_sends m_many m_made m_madeMany m_lacking m_thrown m_now m_ahead m_then m_time m_timeThen m_isThere m_comes) (wr := []) (n := 3) (q0 := 0) X (c_X9_timeOf_s l G cy fu mq m_sends m_hosts m_lost m_late m_wait m_per m_blocks m_many m_made m_madeMany m_lacking m_thrown m_now m_ahead m_then m_time m_timeThen m_isThere m_comes m_many x2 zr11 hzr11) hH [0, 1, 2, 3, 4, 5, 6, 7, 8, 9, 10, 11, 12, 13, 14] [] [0, 1, 2, 3, 4, 5, 6, 7, 8, 9, 10, 11, 12, 13, 14] rfl rfl rfl rfl gX9_freely_X9_timeOf rfl ⟨rfl, rfl⟩ kX9_timeOf ⟨Nat.le_of_ble_eq_true rfl, Nat.le_of_ble_eq_true rfl⟩ rfl rfl rfl rfl rfl hl.1 (Nat.le_of_ble_eq_true rfl) ⟨Nat.le_of_ble_eq_true rfl, Nat.le_of_ble_eq_true rfl⟩ dX9_freely_182 (fun H locs hH => ?_)
    refine lv_iadd (pc := 185) hx hb dX9_freely_185 ?_
    refine lv_topi (fun za12 eza12 => ?_)
    have h := vn_s h za12 eza12
    refine lv_istore (pc := 186) (lv' := [(6, .int za12), (5, .int za4), (4, .int za3), (0, .ref (mq 0)), (1, .int x1), (2, .int x2), (3, .int x3)]) hx hb dX9_freely_186 hl (by decide) rfl (fun ls hl => ?_)
    refine lv_aload_n (pc := 188) hx hb dX9_freely_188 rfl (lv_at hl 3 rfl) ?_
    refine z_get (pc := 189) (v := .ref (mq 11)) X iX9_freely_X9 hH 0 rfl rfl 15 rfl (List.mem_of_getElem? (i := 2) rfl) rfl dX9_freely_189 ?_
    refine lv_iload (pc := 192) hx hb dX9_freely_192 (lv_at hl 2 rfl) ?_
    refine lv_iload (pc := 194) hx hb dX9_freely_194 (lv_at hl 0 rfl) ?_
    refine lv_aload_n (pc := 196) hx hb dX9_freely_196 rfl (lv_at hl 3 rfl) ?_
    refine z_get (pc := 197) (v := .ref (mq 11)) X iX9_freely_X9 hH 0 rfl rfl 15 rfl (List.mem_of_getElem? (i := 2) rfl) rfl dX9_freely_197 ?_
    refine lv_iload (pc := 200) hx hb dX9_freely_200 (lv_at hl 2 rfl) ?_
    obtain ⟨hin, h⟩ := zg h
    refine z_iald (pc := 202) X hH 11 rfl hin dX9_freely_202 ?_
    refine lv_icmp_le (pc := 203) (tgt := 211) hx hb dX9_freely_203 rfl (fun zc13 => ?_) (fun zc13 => ?_)
    · have h := zt zc13 h
      refine lv_aload_n (pc := 211) hx hb dX9_freely_211 rfl (lv_at hl 3 rfl) ?_
      refine z_get (pc := 212) (v := .ref (mq 11)) X iX9_freely_X9 hH 0 rfl rfl 15 rfl (List.mem_of_getElem? (i := 2) rfl) rfl dX9_freely_212 ?_
      refine lv_iload (pc := 215) hx hb dX9_freely_215 (lv_at hl 2 rfl) ?_
      obtain ⟨hin, h⟩ := zg h
      refine z_iald (pc := 217) X hH 11 rfl hin dX9_freely_217 ?_
      obtain ⟨hin, h⟩ := zg h
      refine z_iast (pc := 218) (ws' := wM cy mq m_hosts m_lost m_late m_wait m_per m_blocks m_sends m_many m_made m_madeMany m_lacking m_thrown m_now m_ahead m_then (upd m_time (za3).toNatClampNeg (m_time (za3).toNatClampNeg)) m_timeThen m_isThere m_comes) X hH 11 rfl hin rfl dX9_freely_218 (fun H locs hH => ?_)
      refine lv_aload_n (pc := 219) hx hb dX9_freely_219 rfl (lv_at hl 3 rfl) ?_
      refine z_get (pc := 220) (v := .ref (mq 11)) X iX9_freely_X9 hH 0 rfl rfl 15 rfl (List.mem_of_getElem? (i := 2) rfl) rfl dX9_freely_220 ?_
      refine lv_iload (pc := 223) hx hb dX9_freely_223 (lv_at hl 1 rfl) ?_
      refine lv_iload (pc := 225) hx hb dX9_freely_225 (lv_at hl 0 rfl) ?_
      refine lv_aload_n (pc := 227) hx hb dX9_freely_227 rfl (lv_at hl 3 rfl) ?_
      refine z_get (pc := 228) (v := .ref (mq 11)) X iX9_freely_X9 hH 0 rfl rfl 15 rfl (List.mem_of_getElem? (i := 2) rfl) rfl dX9_freely_228 ?_
      refine lv_iload (pc := 231) hx hb dX9_freely_231 (lv_at hl 1 rfl) ?_
      obtain ⟨hin, h⟩ := zg h
      refine z_iald (pc := 233) X hH 11 rfl hin dX9_freely_233 ?_
      refine lv_icmp_le (pc := 234) (tgt := 242) hx hb dX9_freely_234 rfl (fun zc14 => ?_) (fun zc14 => ?_)
      · have h := zt zc14 h
        refine lv_aload_n (pc := 242) hx hb dX9_freely_242 rfl (lv_at hl 3 rfl) ?_
        refine z_get (pc := 243) (v := .ref (mq 11)) X iX9_freely_X9 hH 0 rfl rfl 15 rfl (List.mem_of_getElem? (i := 2) rfl) rfl dX9_freely_243 ?_
        refine lv_iload (pc := 246) hx hb dX9_freely_246 (lv_at hl 1 rfl) ?_
        obtain ⟨hin, h⟩ := zg h
        refine z_iald (pc := 248) X hH 11 rfl hin dX9_freely_248 ?_
        obtain ⟨hin, h⟩ := zg h
        refine z_iast (pc := 249) (ws' := wM cy mq m_hosts m_lost m_late m_wait m_per m_blocks m_sends m_many m_made m_madeMany m_lacking m_thrown m_now m_ahead m_then (upd (upd m_time (za3).toNatClampNeg (m_time (za3).toNatClampNeg)) (za4).toNatClampNeg ((upd m_time (za3).toNatClampNeg (m_time (za3).toNatClampNeg)) (za4).toNatClampNeg)) m_timeThen m_isThere m_comes) X hH 11 rfl hin rfl dX9_freely_249 (fun H locs hH => ?_)
        refine lv_iinc (pc := 250) (v := (x2 + 1)) (lv' := [(2, .int (x2 + 1)), (6, .int za12), (5, .int za4), (4, .int za3), (0, .ref (mq 0)), (1, .int x1), (3, .int x3)]) hx hb dX9_freely_250 hl (k := 5) rfl (by rw [zk_c1]) (by decide) rfl (fun ls hl => ?_)
        refine lv_goto (pc := 253) (tgt := 91) hx hb dX9_freely_253 rfl ?_
        exact ih (x2 + 1) (upd (upd m_time (za3).toNatClampNeg (m_time (za3).toNatClampNeg)) (za4).toNatClampNeg ((upd m_time (za3).toNatClampNeg (m_time (za3).toNatClampNeg)) (za4).toNatClampNeg)) rr h _ _ _ hH (lv_sub hl [4, 5, 0, 6] rfl) K0
      have h := zf zc14 h
      refine lv_iload (pc := 237) hx hb dX9_freely_237 (lv_at hl 0 rfl) ?_
      refine lv_goto (pc := 239) (tgt := 249) hx hb dX9_freely_239 rfl ?_
      obtain ⟨hin, h⟩ := zg h
      refine z_iast (pc := 249) (ws' := wM cy mq m_hosts m_lost m_late m_wait m_per m_blocks m_sends m_many m_made m_madeMany m_lacking m_thrown m_now m_ahead m_then (upd (upd m_time (za3).toNatClampNeg (m_time (za3).toNatClampNeg)) (za4).toNatClampNeg za12) m_timeThen m_isThere m_comes) X hH 11 rfl hin rfl dX9_freely_249 (fun H locs hH => ?_)
      refine lv_iinc (pc := 250) (v := (x2 + 1)) (lv' := [(2, .int (x2 + 1)), (6, .int za12), (5, .int za4), (4, .int za3), (0, .ref (mq 0)), (1, .int x1), (3, .int x3)]) hx hb dX9_freely_250 hl (k := 5) rfl (by rw [zk_c1]) (by decide) rfl (fun ls hl => ?_)
      refine lv_goto (pc := 253) (tgt := 91) hx hb dX9_freely_253 rfl ?_
      exact ih (x2 + 1) (upd (upd m_time (za3).toNatClampNeg (m_time (za3).toNatClampNeg)) (za4).toNatClampNeg za12) rr h _ _ _ hH (lv_sub hl [4, 5, 0, 6] rfl) K0
    have h := zf zc13 h
    refine lv_iload (pc := 206) hx hb dX9_freely_206 (lv_at hl 0 rfl) ?_
    refine lv_goto (pc := 208) (tgt := 218) hx hb dX9_freely_208 rfl ?_
    obtain ⟨hin, h⟩ := zg h
    refine z_iast (pc := 218) (ws' := wM cy mq m_hosts m_lost m_late m_wait m_per m_blocks m_sends m_many m_made m_madeMany m_lacking m_thrown m_now m_ahead m_then (upd m_time (za3).toNatClampNeg za12) m_timeThen m_isThere m_comes) X hH 11 rfl hin rfl dX9_freely_218 (fun H locs hH => ?_)
    refine lv_aload_n (pc := 219) hx hb dX9_freely_219 rfl (lv_at hl 3 rfl) ?_
    refine z_get (pc := 220) (v := .ref (mq 11)) X iX9_freely_X9 hH 0 rfl rfl 15 rfl (List.mem_of_getElem? (i := 2) rfl) rfl dX9_freely_220 ?_
    refine lv_iload (pc := 223) hx hb dX9_freely_223 (lv_at hl 1 rfl) ?_
    refine lv_iload (pc := 225) hx hb dX9_freely_225 (lv_at hl 0 rfl) ?_
    refine lv_aload_n (pc := 227) hx hb dX9_freely_227 rfl (lv_at hl 3 rfl) ?_
    refine z_get (pc := 228) (v := .ref (mq 11)) X iX9_freely_X9 hH 0 rfl rfl 15 rfl (List.mem_of_getElem? (i := 2) rfl) rfl dX9_freely_228 ?_
    refine lv_iload (pc := 231) hx hb dX9_freely_231 (lv_at hl 1 rfl) ?_
    obtain ⟨hin, h⟩ := zg h
    refine z_iald (pc := 233) X hH 11 rfl hin dX9_freely_233 ?_
    refine lv_icmp_le (pc := 234) (tgt := 242) hx hb dX9_freely_234 rfl (fun zc15 => ?_) (fun zc15 => ?_)
    · have h := zt zc15 h
      refine lv_aload_n (pc := 242) hx hb dX9_freely_242 rfl (lv_at hl 3 rfl) ?_
      refine z_get (pc := 243) (v := .ref (mq 11)) X iX9_freely_X9 hH 0 rfl rfl 15 rfl (List.mem_of_getElem? (i := 2) rfl) rfl dX9_freely_243 ?_
      refine lv_iload (pc := 246) hx hb dX9_freely_246 (lv_at hl 1 rfl) ?_
      obtain ⟨hin, h⟩ := zg h
      refine z_iald (pc := 248) X hH 11 rfl hin dX9_freely_248 ?_
      obtain ⟨hin, h⟩ := zg h
      refine z_iast (pc := 249) (ws' := wM cy mq m_hosts m_lost m_late m_wait m_per m_blocks m_sends m_many m_made m_madeMany m_lacking m_thrown m_now m_ahead m_then (upd (upd m_time (za3).toNatClampNeg za12) (za4).toNatClampNeg ((upd m_time (za3).toNatClampNeg za12) (za4).toNatClampNeg)) m_timeThen m_isThere m_comes) X hH 11 rfl hin rfl dX9_freely_249 (fun H locs hH => ?_)
      refine lv_iinc (pc := 250) (v := (x2 + 1)) (lv' := [(2, .int (x2 + 1)), (6, .int za12), (5, .int za4), (4, .int za3), (0, .ref (mq 0)), (1, .int x1), (3, .int x3)]) hx hb dX9_freely_250 hl (k := 5) rfl (by rw [zk_c1]) (by decide) rfl (fun ls hl => ?_)
      refine lv_goto (pc := 253) (tgt := 91) hx hb dX9_freely_253 rfl ?_
      exact ih (x2 + 1) (upd (upd m_time (za3).toNatClampNeg za12) (za4).toNatClampNeg ((upd m_time (za3).toNatClampNeg za12) (za4).toNatClampNeg)) rr h _ _ _ hH (lv_sub hl [4, 5, 0, 6] rfl) K0
    have h := zf zc15 h
    refine lv_iload (pc := 237) hx hb dX9_freely_237 (lv_at hl 0 rfl) ?_
    refine lv_goto (pc := 239) (tgt := 249) hx hb dX9_freely_239 rfl ?_
    obtain ⟨hin, h⟩ := zg h
    refine z_iast (pc := 249) (ws' := wM cy mq m_hosts m_lost m_late m_wait m_per m_blocks m_sends m_many m_made m_madeMany m_lacking m_thrown m_now m_ahead m_then (upd (upd m_time (za3).toNatClampNeg za12) (za4).toNatClampNeg za12) m_timeThen m_isThere m_comes) X hH 11 rfl hin rfl dX9_freely_249 (fun H locs hH => ?_)
    refine lv_iinc (pc := 250) (v := (x2 + 1)) (lv' := [(2, .int (x2 + 1)), (6, .int za12), (5, .int za4), (4, .int za3), (0, .ref (mq 0)), (1, .int x1), (3, .int x3)]) hx hb dX9_freely_250 hl (k := 5) rfl (by rw [zk_c1]) (by decide) rfl (fun ls hl => ?_)
    refine lv_goto (pc := 253) (tgt := 91) hx hb dX9_freely_253 rfl ?_
    exact ih (x2 + 1) (upd (upd m_time (za3).toNatClampNeg za12) (za4).toNatClampNeg za12) rr h _ _ _ hH (lv_sub hl [4, 5, 0, 6] rfl) K0
set_option maxHeartbeats 4000000 in
set_option maxRecDepth 100000 in
theorem w_X9_freely_l43 {p : Program} {l : Launch} {e : Env} {s : State} {m : MethodId} {args : Array Value} {below : List Frame} {meth : Method} {c : Code} {A : Nat → Prop} {Q : State → Prop} (G : va_G) (cy : Nat → ClassId) (fu : Nat) (mq : Nat → Nat) (m_hosts : Int32) (m_lost : Nat → Int32) (m_late : Nat → Int32) (m_wait : Nat → Int32) (m_per : Nat → Int32) (m_blocks : Nat → Int32) (m_sends : Nat → Int32) (m_many : Int32) (m_made : Nat → Int32) (m_madeMany : Int32) (m_lacking : Int32) (m_thrown : Int32) (m_now : Nat → Int32) (m_ahead : Nat → Int32) (m_then : Nat → Int32) (m_isThere : Nat → Int32) (m_comes : Nat → Int32) (x1 : Int32) (X : zX p s m args meth c RX9 cX9_freely 7 wsX9_freely G cy A) : ∀ (n : Nat) (x2 : Int32) (m_time : Nat → Int32) (m_timeThen : Nat → Int32) (rr : (Nat → Int32) × (Nat → Int32)) (h : lp (f_X9_freely_l43 fu m_wait m_per m_sends m_many) n (x2, m_time, m_timeThen) = some rr) (H : Heap) (locs : List Loc) (ls : Array Slot) (hH : zH G A s.heap (wM cy mq m_hosts m_lost m_late m_wait m_per m_blocks m_sends m_many m_made m_madeMany m_lacking m_thrown m_now m_ahead m_then m_time m_timeThen m_isThere m_comes) H locs) (hl : lv_has ls 7 [(0, .ref (mq 0)), (1, .int x1), (2, .int x2)]) (K0 : ∀ (H : Heap) (locs : List Loc) (ls : Array Slot), zH G A s.heap (wM cy mq m_hosts m_lost m_late m_wait m_per m_blocks m_sends m_many m_made m_madeMany m_lacking m_thrown m_now m_ahead m_then rr.1 rr.2 m_isThere m_comes) H locs → lv_has ls 7 [(0, .ref (mq 0)), (1, .int x1)] → W p l e (zR 3 64) s m args below meth c H locs 0 0 Q (F0 m 259 ls [])), W p l e (zR 3 64) s m args below meth c H locs 0 0 Q (F0 m 43 ls []) := by
  have hx := X.1.1
  have hb := X.1.2.1
  intro n
  induction n with
  | zero => intro x2 m_time m_timeThen rr h H locs ls hH hl K0; cases h
  | succ n ih =>
    intro x2 m_time m_timeThen rr h H locs ls hH hl K0
    replace h : f_X9_freely_l43 fu m_wait m_per m_sends m_many (lp (f_X9_freely_l43 fu m_wait m_per m_sends m_many) n) (x2, m_time, m_timeThen) = some rr := h
    dsimp only [f_X9_freely_l43] at h
    refine lv_iload_n (pc := 43) hx hb dX9_freely_43 rfl (lv_at hl 2 rfl) ?_
    refine lv_aload_n (pc := 44) hx hb dX9_freely_44 rfl (lv_at hl 0 rfl) ?_
    refine z_get (pc := 45) (v := .int m_many) X iX9_freely_X9 hH 0 rfl rfl 7 rfl (List.mem_of_getElem? (i := 4) rfl) rfl dX9_freely_45 ?_
    refine lv_icmp_ge (pc := 48) (tgt := 259) hx hb dX9_freely_48 rfl (fun zc1 => ?_) (fun zc1 => ?_)
    · have h := zt zc1 h
      obtain rfl := Option.some.inj h
      exact K0 _ _ _ hH (lv_sub hl [0, 1] rfl)
    have h := zf zc1 h
    refine lv_aload_n (pc := 51) hx hb dX9_freely_51 rfl (lv_at hl 0 rfl) ?_
    refine z_get (pc := 52) (v := .ref (mq 6)) X iX9_freely_X9 hH 0 rfl rfl 6 rfl (List.mem_of_getElem? (i := 5) rfl) rfl dX9_freely_52 ?_
    refine lv_bipush (v := 6) (pc := 55) hx hb dX9_freely_55 zk_b6 ?_
    refine lv_iload_n (pc := 57) hx hb dX9_freely_57 rfl (lv_at hl 2 rfl) ?_
    refine lv_imul (pc := 58) hx hb dX9_freely_58 ?_
    obtain ⟨hin, h⟩ := zg h
    refine z_iald (pc := 59) X hH 6 rfl hin dX9_freely_59 ?_
    refine lv_topi (fun za2 eza2 => ?_)
    have h := vn_s h za2 eza2
    refine lv_istore_n (pc := 60) (lv' := [(3, .int za2), (0, .ref (mq 0)), (1, .int x1), (2, .int x2)]) hx hb dX9_freely_60 rfl hl (by decide) rfl (fun ls hl => ?_)
    refine lv_iconst (v := 0) (pc := 61) hx hb dX9_freely_61 zk_c0 ?_
    refine lv_istore (pc := 62) (lv' := [(4, .int 0), (3, .int za2), (0, .ref (mq 0)), (1, .int x1), (2, .int x2)]) hx hb dX9_freely_62 hl (by decide) rfl (fun ls hl => ?_)
    obtain ⟨zr3, hzr3, h⟩ := zb h
    refine w_X9_freely_l64 G cy fu mq m_hosts m_lost m_late m_wait m_per m_blocks m_sends m_many m_made m_madeMany m_lacking m_thrown m_now m_ahead m_then m_time m_isThere m_comes x1 x2 za2 X fu 0 m_timeThen zr3 hzr3 _ _ _ hH (lv_sub hl [2, 3, 4, 1, 0] rfl) (fun H locs ls hH hl => ?_)
    obtain ⟨zr4, hzr4, h⟩ := zb h
    refine w_X9_freely_l91 G cy fu mq m_hosts m_lost m_late m_wait m_per m_blocks m_sends m_many m_made m_madeMany m_lacking m_thrown m_now m_ahead m_then zr3 m_isThere m_comes x1 za2 X fu x2 m_time zr4 hzr4 _ _ _ hH (lv_sub hl [0, 1, 2, 3] rfl) (fun H locs ls hH hl => ?_)
    refine lv_goto (pc := 256) (tgt := 43) hx hb dX9_freely_256 rfl ?_
    exact ih zr4.1 zr4.2 zr3 rr h _ _ _ hH (lv_sub hl [0, 1, 2] rfl) K0
set_option maxHeartbeats 4000000 in
set_option maxRecDepth 100000 in
theorem c_X9_freely (l : Launch) (G : va_G) (cy : Nat → ClassId) (fu : Nat) (mq : Nat → Nat) (m_hosts : Int32) (m_lost : Nat → Int32) (m_late : Nat → Int32) (m_wait : Nat → Int32) (m_per : Nat → Int32) (m_blocks : Nat → Int32) (m_sends : Nat → Int32) (m_many : Int32) (m_made : Nat → Int32) (m_madeMany : Int32) (m_lacking : Int32) (m_thrown : Int32) (m_now : Nat → Int32) (m_ahead : Nat → Int32) (m_then : Nat → Int32) (m_time : Nat → Int32) (m_timeThen : Nat → Int32) (m_isThere : Nat → Int32) (m_comes : Nat → Int32) (x1 : Int32) (rr : Int32 × Int32 × (Nat → Int32) × (Nat → Int32)) (h : f_X9_freely fu m_hosts m_lost m_late m_wait m_per m_sends m_many m_time m_timeThen x1 = some rr) : zM l G cy yX9_freely wsX9_freely (zR 3 64) [.ref (mq 0), .int x1] (wM cy mq m_hosts m_lost m_late m_wait m_per m_blocks m_sends m_many m_made m_madeMany m_lacking m_thrown m_now m_ahead m_then m_time m_timeThen m_isThere m_comes) (wM cy mq m_hosts m_lost m_late m_wait m_per m_blocks m_sends m_many m_made m_madeMany m_lacking rr.2.1 m_now m_ahead m_then rr.2.2.1 rr.2.2.2 m_isThere m_comes) (some (.int rr.1)) := by
  refine zM.mk (cc := cX9_freely) (nL := 7) (ret := (some .int)) (by decide) rfl (Nat.le_of_ble_eq_true rfl) ?_
  intro p e s m below meth c A ls X hr hH hl
  replace X : zX p s m [.ref (mq 0), .int x1].toArray meth c RX9 cX9_freely 7 wsX9_freely G cy A := X
  have hx := X.1.1
  have hb := X.1.2.1
  replace hl : lv_has ls 7 [(0, .ref (mq 0)), (1, .int x1)] := hl
  dsimp only [f_X9_freely] at h
  refine lv_aload_n (pc := 0) hx hb dX9_freely_0 rfl (lv_at hl 0 rfl) ?_
  refine lv_iconst (v := 0) (pc := 1) hx hb dX9_freely_1 zk_c0 ?_
  refine z_put (pc := 2) (v := .int 0) (ws' := wM cy mq m_hosts m_lost m_late m_wait m_per m_blocks m_sends m_many m_made m_madeMany m_lacking 0 m_now m_ahead m_then m_time m_timeThen m_isThere m_comes) X iX9_freely_X9 tyX9 tyX9_ok nmX9 hH 0 rfl rfl 11 rfl (List.mem_of_getElem? (i := 1) rfl) rfl rfl rfl rfl rfl dX9_freely_2 (fun H locs hH => ?_)
  refine lv_aload_n (pc := 5) hx hb dX9_freely_5 rfl (lv_at hl 0 rfl) ?_
  refine lv_iload_n (pc := 6) hx hb dX9_freely_6 rfl (lv_at hl 1 rfl) ?_
  obtain ⟨zr1, hzr1, h⟩ := zb h
  refine zcV (pc := 7) (As := [.int x1]) (rest := []) (st1 := [.int zr1]) (ws' := wM cy mq m_hosts m_lost m_late m_wait m_per m_blocks m_sends m_many m_made m_madeMany m_lacking 0 m_now m_ahead m_then m_time m_timeThen m_isThere m_comes) (wr := []) (n := 1) (q0 := 0) X (c_X9_isLive l G cy fu mq m_hosts m_lost m_late m_wait m_per m_blocks m_sends m_many m_made m_madeMany m_lacking 0 m_now m_ahead m_then m_time m_timeThen m_isThere m_comes x1 zr1 hzr1) hH [0, 1, 2, 3, 4, 5, 6, 7, 8, 9, 10, 11, 12, 13, 14] [] [0, 1, 2, 3, 4, 5, 6, 7, 8, 9, 10, 11, 12, 13, 14] rfl rfl rfl rfl gX9_freely_X9_isLive rfl ⟨rfl, rfl⟩ kX9_isLive ⟨Nat.le_of_ble_eq_true rfl, Nat.le_of_ble_eq_true rfl⟩ rfl rfl rfl rfl rfl hl.1 (Nat.le_of_ble_eq_true rfl) ⟨Nat.le_of_ble_eq_true rfl, Nat.le_of_ble_eq_true rfl⟩ dX9_freely_7 (fun H locs hH => ?_)
  refine lv_if_ne (pc := 10) (tgt := 15) hx hb dX9_freely_10 rfl (fun zc2 => ?_) (fun zc2 => ?_)
  · have h := zf zc2 h
    refine lv_iconst (v := 0) (pc := 15) hx hb dX9_freely_15 zk_c0 ?_
    refine lv_istore_n (pc := 16) (lv' := [(2, .int 0), (0, .ref (mq 0)), (1, .int x1)]) hx hb dX9_freely_16 rfl hl (by decide) rfl (fun ls hl => ?_)
    obtain ⟨zr3, hzr3, h⟩ := zb h
    refine w_X9_freely_l17 G cy fu mq m_hosts m_lost m_late m_wait m_per m_blocks m_sends m_many m_made m_madeMany m_lacking 0 m_now m_ahead m_then m_timeThen m_isThere m_comes x1 X fu 0 m_time zr3 hzr3 _ _ _ hH (lv_sub hl [1, 2, 0] rfl) (fun H locs ls hH hl => ?_)
    refine lv_iconst (v := 0) (pc := 41) hx hb dX9_freely_41 zk_c0 ?_
    refine lv_istore_n (pc := 42) (lv' := [(2, .int 0), (0, .ref (mq 0)), (1, .int x1)]) hx hb dX9_freely_42 rfl hl (by decide) rfl (fun ls hl => ?_)
    obtain ⟨zr4, hzr4, h⟩ := zb h
    refine w_X9_freely_l43 G cy fu mq m_hosts m_lost m_late m_wait m_per m_blocks m_sends m_many m_made m_madeMany m_lacking 0 m_now m_ahead m_then m_isThere m_comes x1 X fu 0 zr3 m_timeThen zr4 hzr4 _ _ _ hH (lv_sub hl [1, 2, 0] rfl) (fun H locs ls hH hl => ?_)
    refine lv_aload_n (pc := 259) hx hb dX9_freely_259 rfl (lv_at hl 0 rfl) ?_
    refine z_get (pc := 260) (v := .ref (mq 11)) X iX9_freely_X9 hH 0 rfl rfl 15 rfl (List.mem_of_getElem? (i := 2) rfl) rfl dX9_freely_260 ?_
    refine lv_iload_n (pc := 263) hx hb dX9_freely_263 rfl (lv_at hl 1 rfl) ?_
    obtain ⟨hin, h⟩ := zg h
    refine z_iald (pc := 264) X hH 11 rfl hin dX9_freely_264 ?_
    obtain rfl := Option.some.inj h
    exact z_iret X hr hH dX9_freely_265
  have h := zt zc2 h
  refine lv_iconst (v := (-1)) (pc := 13) hx hb dX9_freely_13 zk_cm1 ?_
  obtain rfl := Option.some.inj h
  exact z_iret X hr hH dX9_freely_14
set_option maxHeartbeats 4000000 in
set_option maxRecDepth 100000 in
theorem c_X9_price (l : Launch) (G : va_G) (cy : Nat → ClassId) (fu : Nat) (mq : Nat → Nat) (m_hosts : Int32) (m_lost : Nat → Int32) (m_late : Nat → Int32) (m_wait : Nat → Int32) (m_per : Nat → Int32) (m_blocks : Nat → Int32) (m_sends : Nat → Int32) (m_many : Int32) (m_made : Nat → Int32) (m_madeMany : Int32) (m_lacking : Int32) (m_thrown : Int32) (m_now : Nat → Int32) (m_ahead : Nat → Int32) (m_then : Nat → Int32) (m_time : Nat → Int32) (m_timeThen : Nat → Int32) (m_isThere : Nat → Int32) (m_comes : Nat → Int32) (x1 : Int32) (x2 : Int32) (x3 : Int32) (rr : Int32 × (Nat → Int32) × Int32 × Int32 × Int32) (h : f_X9_price fu m_hosts m_lost m_wait m_per m_made m_madeMany m_lacking x1 x2 x3 = some rr) : zM l G cy yX9_price wsX9_price (zR 5 131) [.ref (mq 0), .int x1, .int x2, .int x3] (wM cy mq m_hosts m_lost m_late m_wait m_per m_blocks m_sends m_many m_made m_madeMany m_lacking m_thrown m_now m_ahead m_then m_time m_timeThen m_isThere m_comes) (wM cy mq m_hosts m_lost m_late m_wait m_per m_blocks m_sends m_many rr.2.1 rr.2.2.1 rr.2.2.2.1 rr.2.2.2.2 m_now m_ahead m_then m_time m_timeThen m_isThere m_comes) (some (.int rr.1)) := by
  refine zM.mk (cc := cX9_price) (nL := 5) (ret := (some .int)) (by decide) rfl (Nat.le_of_ble_eq_true rfl) ?_
  intro p e s m below meth c A ls X hr hH hl
  replace X : zX p s m [.ref (mq 0), .int x1, .int x2, .int x3].toArray meth c RX9 cX9_price 5 wsX9_price G cy A := X
  have hx := X.1.1
  have hb := X.1.2.1
  replace hl : lv_has ls 5 [(0, .ref (mq 0)), (1, .int x1), (2, .int x2), (3, .int x3)] := hl
  dsimp only [f_X9_price] at h
  refine lv_aload_n (pc := 0) hx hb dX9_price_0 rfl (lv_at hl 0 rfl) ?_
  refine lv_iconst (v := 0) (pc := 1) hx hb dX9_price_1 zk_c0 ?_
  refine z_put (pc := 2) (v := .int 0) (ws' := wM cy mq m_hosts m_lost m_late m_wait m_per m_blocks m_sends m_many m_made m_madeMany m_lacking 0 m_now m_ahead m_then m_time m_timeThen m_isThere m_comes) X iX9_price_X9 tyX9 tyX9_ok nmX9 hH 0 rfl rfl 11 rfl (List.mem_of_getElem? (i := 1) rfl) rfl rfl rfl rfl rfl dX9_price_2 (fun H locs hH => ?_)
  refine lv_aload_n (pc := 5) hx hb dX9_price_5 rfl (lv_at hl 0 rfl) ?_
  refine lv_iload_n (pc := 6) hx hb dX9_price_6 rfl (lv_at hl 1 rfl) ?_
  refine lv_iload_n (pc := 7) hx hb dX9_price_7 rfl (lv_at hl 2 rfl) ?_
  refine lv_iload_n (pc := 8) hx hb dX9_price_8 rfl (lv_at hl 3 rfl) ?_
  obtain ⟨zr1, hzr1, h⟩ := zb h
  refine zcV (pc := 9) (As := [.int x1, .int x2, .int x3]) (rest := []) (st1 := [.int zr1.1]) (ws' := wM cy mq m_hosts m_lost m_late m_wait m_per m_blocks m_sends m_many zr1.2.1 zr1.2.2.1 zr1.2.2.2 0 m_now m_ahead m_then m_time m_timeThen m_isThere m_comes) (wr := []) (n := 3) (q0 := 0) X (c_X9_make l G cy fu mq m_hosts m_lost m_late m_wait m_per m_blocks m_sends m_many m_made m_madeMany m_lacking 0 m_now m_ahead m_then m_time m_timeThen m_isThere m_comes x1 x2 x3 zr1 hzr1) hH [0, 1, 2, 3, 4, 5, 6, 7, 8, 9, 10, 11, 12, 13, 14] [] [0, 1, 2, 3, 4, 5, 6, 7, 8, 9, 10, 11, 12, 13, 14] rfl rfl rfl rfl gX9_price_X9_make rfl ⟨rfl, rfl⟩ kX9_make ⟨Nat.le_of_ble_eq_true rfl, Nat.le_of_ble_eq_true rfl⟩ rfl rfl rfl rfl rfl hl.1 (Nat.le_of_ble_eq_true rfl) ⟨Nat.le_of_ble_eq_true rfl, Nat.le_of_ble_eq_true rfl⟩ dX9_price_9 (fun H locs hH => ?_)
  refine lv_istore (pc := 12) (lv' := [(4, .int zr1.1), (0, .ref (mq 0)), (1, .int x1), (2, .int x2), (3, .int x3)]) hx hb dX9_price_12 hl (by decide) rfl (fun ls hl => ?_)
  refine lv_iload (pc := 14) hx hb dX9_price_14 (lv_at hl 0 rfl) ?_
  refine lv_if_ge (pc := 16) (tgt := 24) hx hb dX9_price_16 rfl (fun zc2 => ?_) (fun zc2 => ?_)
  · have h := zt zc2 h
    refine lv_aload_n (pc := 24) hx hb dX9_price_24 rfl (lv_at hl 1 rfl) ?_
    refine lv_aload_n (pc := 25) hx hb dX9_price_25 rfl (lv_at hl 1 rfl) ?_
    refine z_get (pc := 26) (v := .ref (mq 7)) X iX9_price_X9 hH 0 rfl rfl 8 rfl (List.mem_of_getElem? (i := 2) rfl) rfl dX9_price_26 ?_
    refine lv_aload_n (pc := 29) hx hb dX9_price_29 rfl (lv_at hl 1 rfl) ?_
    refine z_get (pc := 30) (v := .int zr1.2.2.1) X iX9_price_X9 hH 0 rfl rfl 9 rfl (List.mem_of_getElem? (i := 3) rfl) rfl dX9_price_30 ?_
    obtain ⟨zr3, hzr3, h⟩ := zb h
    refine zcV (pc := 33) (As := [.ref (mq 7), .int zr1.2.2.1]) (rest := []) (st1 := [.int zr3]) (ws' := wM cy mq m_hosts m_lost m_late m_wait m_per m_blocks m_sends m_many zr1.2.1 zr1.2.2.1 zr1.2.2.2 0 m_now m_ahead m_then m_time m_timeThen m_isThere m_comes) (wr := []) (n := 2) (q0 := 0) X (c_X9_ticksOf_m l G cy fu mq zr1.2.1 m_hosts m_lost m_late m_wait m_per m_blocks m_sends m_many zr1.2.2.1 zr1.2.2.2 0 m_now m_ahead m_then m_time m_timeThen m_isThere m_comes zr1.2.2.1 zr3 hzr3) hH [0, 1, 2, 3, 4, 5, 6, 7, 8, 9, 10, 11, 12, 13, 14] [] [0, 1, 2, 3, 4, 5, 6, 7, 8, 9, 10, 11, 12, 13, 14] rfl rfl rfl rfl gX9_price_X9_ticksOf rfl ⟨rfl, rfl⟩ kX9_ticksOf ⟨Nat.le_of_ble_eq_true rfl, Nat.le_of_ble_eq_true rfl⟩ rfl rfl rfl rfl rfl hl.1 (Nat.le_of_ble_eq_true rfl) ⟨Nat.le_of_ble_eq_true rfl, Nat.le_of_ble_eq_true rfl⟩ dX9_price_33 (fun H locs hH => ?_)
    obtain rfl := Option.some.inj h
    exact z_iret X hr hH dX9_price_36
  have h := zf zc2 h
  refine lv_iload (pc := 19) hx hb dX9_price_19 (lv_at hl 0 rfl) ?_
  refine lv_goto (pc := 21) (tgt := 36) hx hb dX9_price_21 rfl ?_
  obtain rfl := Option.some.inj h
  exact z_iret X hr hH dX9_price_36
set_option maxHeartbeats 4000000 in
set_option maxRecDepth 100000 in
theorem w_X9_best_l25 {p : Program} {l : Launch} {e : Env} {s : State} {m : MethodId} {args : Array Value} {below : List Frame} {meth : Method} {c : Code} {A : Nat → Prop} {Q : State → Prop} (G : va_G) (cy : Nat → ClassId) (fu : Nat) (mq : Nat → Nat) (m_hosts : Int32) (m_lost : Nat → Int32) (m_late : Nat → Int32) (m_wait : Nat → Int32) (m_per : Nat → Int32) (m_blocks : Nat → Int32) (m_sends : Nat → Int32) (m_many : Int32) (m_thrown : Int32) (m_now : Nat → Int32) (m_ahead : Nat → Int32) (m_then : Nat → Int32) (m_time : Nat → Int32) (m_timeThen : Nat → Int32) (m_isThere : Nat → Int32) (m_comes : Nat → Int32) (x1 : Int32) (x2 : Int32) (X : zX p s m args meth c RX9 cX9_best 7 wsX9_best G cy A) : ∀ (n : Nat) (x3 : Int32) (x4 : Int32) (x5 : Int32) (m_made : Nat → Int32) (m_madeMany : Int32) (m_lacking : Int32) (rr : Int32 × (Nat → Int32) × Int32 × Int32) (h : lp (f_X9_best_l25 fu m_hosts m_lost m_wait m_per x1 x2) n (x3, x4, x5, m_made, m_madeMany, m_lacking) = some rr) (H : Heap) (locs : List Loc) (ls : Array Slot) (hH : zH G A s.heap (wM cy mq m_hosts m_lost m_late m_wait m_per m_blocks m_sends m_many m_made m_madeMany m_lacking m_thrown m_now m_ahead m_then m_time m_timeThen m_isThere m_comes) H locs) (hl : lv_has ls 7 [(0, .ref (mq 0)), (1, .int x1), (2, .int x2), (3, .int x3), (4, .int x4), (5, .int x5)]) (K0 : ∀ (H : Heap) (locs : List Loc) (ls : Array Slot), zH G A s.heap (wM cy mq m_hosts m_lost m_late m_wait m_per m_blocks m_sends m_many rr.2.1 rr.2.2.1 rr.2.2.2 m_thrown m_now m_ahead m_then m_time m_timeThen m_isThere m_comes) H locs → lv_has ls 7 [(3, .int rr.1)] → W p l e (zR 5 131) s m args below meth c H locs 0 0 Q (F0 m 86 ls [])), W p l e (zR 5 131) s m args below meth c H locs 0 0 Q (F0 m 25 ls []) := by
  have hx := X.1.1
  have hb := X.1.2.1
  intro n
  induction n with
  | zero => intro x3 x4 x5 m_made m_madeMany m_lacking rr h H locs ls hH hl K0; cases h
  | succ n ih =>
    intro x3 x4 x5 m_made m_madeMany m_lacking rr h H locs ls hH hl K0
    replace h : f_X9_best_l25 fu m_hosts m_lost m_wait m_per x1 x2 (lp (f_X9_best_l25 fu m_hosts m_lost m_wait m_per x1 x2) n) (x3, x4, x5, m_made, m_madeMany, m_lacking) = some rr := h
    dsimp only [f_X9_best_l25] at h
    refine lv_iload (pc := 25) hx hb dX9_best_25 (lv_at hl 5 rfl) ?_
    refine lv_iconst (v := 4) (pc := 27) hx hb dX9_best_27 zk_c4 ?_
    refine lv_icmp_ge (pc := 28) (tgt := 86) hx hb dX9_best_28 rfl (fun zc1 => ?_) (fun zc1 => ?_)
    · have h := zt zc1 h
      obtain rfl := Option.some.inj h
      exact K0 _ _ _ hH (lv_sub hl [3] rfl)
    have h := zf zc1 h
    refine lv_aload_n (pc := 31) hx hb dX9_best_31 rfl (lv_at hl 0 rfl) ?_
    refine lv_iload (pc := 32) hx hb dX9_best_32 (lv_at hl 5 rfl) ?_
    refine lv_iload_n (pc := 34) hx hb dX9_best_34 rfl (lv_at hl 1 rfl) ?_
    refine lv_iload_n (pc := 35) hx hb dX9_best_35 rfl (lv_at hl 2 rfl) ?_
    obtain ⟨zr2, hzr2, h⟩ := zb h
    refine zcV (pc := 36) (As := [.int x5, .int x1, .int x2]) (rest := []) (st1 := [.int zr2.1]) (ws' := wM cy mq m_hosts m_lost m_late m_wait m_per m_blocks m_sends m_many zr2.2.1 zr2.2.2.1 zr2.2.2.2 m_thrown m_now m_ahead m_then m_time m_timeThen m_isThere m_comes) (wr := []) (n := 3) (q0 := 0) X (c_X9_make l G cy fu mq m_hosts m_lost m_late m_wait m_per m_blocks m_sends m_many m_made m_madeMany m_lacking m_thrown m_now m_ahead m_then m_time m_timeThen m_isThere m_comes x5 x1 x2 zr2 hzr2) hH [0, 1, 2, 3, 4, 5, 6, 7, 8, 9, 10, 11, 12, 13, 14] [] [0, 1, 2, 3, 4, 5, 6, 7, 8, 9, 10, 11, 12, 13, 14] rfl rfl rfl rfl gX9_best_X9_make rfl ⟨rfl, rfl⟩ kX9_make ⟨Nat.le_of_ble_eq_true rfl, Nat.le_of_ble_eq_true rfl⟩ rfl rfl rfl rfl rfl hl.1 (Nat.le_of_ble_eq_true rfl) ⟨Nat.le_of_ble_eq_true rfl, Nat.le_of_ble_eq_true rfl⟩ dX9_best_36 (fun H locs hH => ?_)
    refine lv_if_ge (pc := 39) (tgt := 45) hx hb dX9_best_39 rfl (fun zc3 => ?_) (fun zc3 => ?_)
    · have h := zt zc3 h
      refine lv_aload_n (pc := 45) hx hb dX9_best_45 rfl (lv_at hl 0 rfl) ?_
      refine lv_aload_n (pc := 46) hx hb dX9_best_46 rfl (lv_at hl 0 rfl) ?_
      refine z_get (pc := 47) (v := .ref (mq 7)) X iX9_best_X9 hH 0 rfl rfl 8 rfl (List.mem_of_getElem? (i := 2) rfl) rfl dX9_best_47 ?_
      refine lv_aload_n (pc := 50) hx hb dX9_best_50 rfl (lv_at hl 0 rfl) ?_
      refine z_get (pc := 51) (v := .int zr2.2.2.1) X iX9_best_X9 hH 0 rfl rfl 9 rfl (List.mem_of_getElem? (i := 3) rfl) rfl dX9_best_51 ?_
      obtain ⟨zr4, hzr4, h⟩ := zb h
      refine zcV (pc := 54) (As := [.ref (mq 7), .int zr2.2.2.1]) (rest := []) (st1 := [.int zr4]) (ws' := wM cy mq m_hosts m_lost m_late m_wait m_per m_blocks m_sends m_many zr2.2.1 zr2.2.2.1 zr2.2.2.2 m_thrown m_now m_ahead m_then m_time m_timeThen m_isThere m_comes) (wr := []) (n := 2) (q0 := 0) X (c_X9_ticksOf_m l G cy fu mq zr2.2.1 m_hosts m_lost m_late m_wait m_per m_blocks m_sends m_many zr2.2.2.1 zr2.2.2.2 m_thrown m_now m_ahead m_then m_time m_timeThen m_isThere m_comes zr2.2.2.1 zr4 hzr4) hH [0, 1, 2, 3, 4, 5, 6, 7, 8, 9, 10, 11, 12, 13, 14] [] [0, 1, 2, 3, 4, 5, 6, 7, 8, 9, 10, 11, 12, 13, 14] rfl rfl rfl rfl gX9_best_X9_ticksOf rfl ⟨rfl, rfl⟩ kX9_ticksOf ⟨Nat.le_of_ble_eq_true rfl, Nat.le_of_ble_eq_true rfl⟩ rfl rfl rfl rfl rfl hl.1 (Nat.le_of_ble_eq_true rfl) ⟨Nat.le_of_ble_eq_true rfl, Nat.le_of_ble_eq_true rfl⟩ dX9_best_54 (fun H locs hH => ?_)
      refine lv_istore (pc := 57) (lv' := [(6, .int zr4), (0, .ref (mq 0)), (1, .int x1), (2, .int x2), (3, .int x3), (4, .int x4), (5, .int x5)]) hx hb dX9_best_57 hl (by decide) rfl (fun ls hl => ?_)
      refine lv_iload_n (pc := 59) hx hb dX9_best_59 rfl (lv_at hl 4 rfl) ?_
      refine lv_if_lt (pc := 60) (tgt := 73) hx hb dX9_best_60 rfl (fun zc5 => ?_) (fun zc5 => ?_)
      · have h := zt zc5 h
        refine lv_iload (pc := 73) hx hb dX9_best_73 (lv_at hl 6 rfl) ?_
        refine lv_istore_n (pc := 75) (lv' := [(3, .int x5), (6, .int zr4), (0, .ref (mq 0)), (1, .int x1), (2, .int x2), (4, .int x4), (5, .int x5)]) hx hb dX9_best_75 rfl hl (by decide) rfl (fun ls hl => ?_)
        refine lv_iload (pc := 76) hx hb dX9_best_76 (lv_at hl 1 rfl) ?_
        refine lv_istore (pc := 78) (lv' := [(4, .int zr4), (3, .int x5), (6, .int zr4), (0, .ref (mq 0)), (1, .int x1), (2, .int x2), (5, .int x5)]) hx hb dX9_best_78 hl (by decide) rfl (fun ls hl => ?_)
        refine lv_iinc (pc := 80) (v := (x5 + 1)) (lv' := [(5, .int (x5 + 1)), (4, .int zr4), (3, .int x5), (6, .int zr4), (0, .ref (mq 0)), (1, .int x1), (2, .int x2)]) hx hb dX9_best_80 hl (k := 6) rfl (by rw [zk_c1]) (by decide) rfl (fun ls hl => ?_)
        refine lv_goto (pc := 83) (tgt := 25) hx hb dX9_best_83 rfl ?_
        exact ih x5 zr4 (x5 + 1) zr2.2.1 zr2.2.2.1 zr2.2.2.2 rr h _ _ _ hH (lv_sub hl [4, 5, 6, 2, 1, 0] rfl) K0
      have h := zf zc5 h
      refine lv_iload (pc := 63) hx hb dX9_best_63 (lv_at hl 0 rfl) ?_
      refine lv_iload (pc := 65) hx hb dX9_best_65 (lv_at hl 5 rfl) ?_
      refine lv_icmp_lt (pc := 67) (tgt := 73) hx hb dX9_best_67 rfl (fun zc6 => ?_) (fun zc6 => ?_)
      · have h := zt zc6 h
        refine lv_iload (pc := 73) hx hb dX9_best_73 (lv_at hl 6 rfl) ?_
        refine lv_istore_n (pc := 75) (lv' := [(3, .int x5), (6, .int zr4), (0, .ref (mq 0)), (1, .int x1), (2, .int x2), (4, .int x4), (5, .int x5)]) hx hb dX9_best_75 rfl hl (by decide) rfl (fun ls hl => ?_)
        refine lv_iload (pc := 76) hx hb dX9_best_76 (lv_at hl 1 rfl) ?_
        refine lv_istore (pc := 78) (lv' := [(4, .int zr4), (3, .int x5), (6, .int zr4), (0, .ref (mq 0)), (1, .int x1), (2, .int x2), (5, .int x5)]) hx hb dX9_best_78 hl (by decide) rfl (fun ls hl => ?_)
        refine lv_iinc (pc := 80) (v := (x5 + 1)) (lv' := [(5, .int (x5 + 1)), (4, .int zr4), (3, .int x5), (6, .int zr4), (0, .ref (mq 0)), (1, .int x1), (2, .int x2)]) hx hb dX9_best_80 hl (k := 6) rfl (by rw [zk_c1]) (by decide) rfl (fun ls hl => ?_)
        refine lv_goto (pc := 83) (tgt := 25) hx hb dX9_best_83 rfl ?_
        exact ih x5 zr4 (x5 + 1) zr2.2.1 zr2.2.2.1 zr2.2.2.2 rr h _ _ _ hH (lv_sub hl [4, 5, 6, 2, 1, 0] rfl) K0
      have h := zf zc6 h
      refine lv_goto (pc := 70) (tgt := 80) hx hb dX9_best_70 rfl ?_
      refine lv_iinc (pc := 80) (v := (x5 + 1)) (lv' := [(5, .int (x5 + 1)), (6, .int zr4), (0, .ref (mq 0)), (1, .int x1), (2, .int x2), (3, .int x3), (4, .int x4)]) hx hb dX9_best_80 hl (k := 6) rfl (by rw [zk_c1]) (by decide) rfl (fun ls hl => ?_)
      refine lv_goto (pc := 83) (tgt := 25) hx hb dX9_best_83 rfl ?_
      exact ih x3 x4 (x5 + 1) zr2.2.1 zr2.2.2.1 zr2.2.2.2 rr h _ _ _ hH (lv_sub hl [2, 3, 4, 5, 6, 0] rfl) K0
    have h := zf zc3 h
    refine lv_goto (pc := 42) (tgt := 80) hx hb dX9_best_42 rfl ?_
    refine lv_iinc (pc := 80) (v := (x5 + 1)) (lv' := [(5, .int (x5 + 1)), (0, .ref (mq 0)), (1, .int x1), (2, .int x2), (3, .int x3), (4, .int x4)]) hx hb dX9_best_80 hl (k := 5) rfl (by rw [zk_c1]) (by decide) rfl (fun ls hl => ?_)
    refine lv_goto (pc := 83) (tgt := 25) hx hb dX9_best_83 rfl ?_
    exact ih x3 x4 (x5 + 1) zr2.2.1 zr2.2.2.1 zr2.2.2.2 rr h _ _ _ hH (lv_sub hl [1, 2, 3, 4, 5, 0] rfl) K0
set_option maxHeartbeats 4000000 in
set_option maxRecDepth 100000 in
theorem c_X9_best (l : Launch) (G : va_G) (cy : Nat → ClassId) (fu : Nat) (mq : Nat → Nat) (m_hosts : Int32) (m_lost : Nat → Int32) (m_late : Nat → Int32) (m_wait : Nat → Int32) (m_per : Nat → Int32) (m_blocks : Nat → Int32) (m_sends : Nat → Int32) (m_many : Int32) (m_made : Nat → Int32) (m_madeMany : Int32) (m_lacking : Int32) (m_thrown : Int32) (m_now : Nat → Int32) (m_ahead : Nat → Int32) (m_then : Nat → Int32) (m_time : Nat → Int32) (m_timeThen : Nat → Int32) (m_isThere : Nat → Int32) (m_comes : Nat → Int32) (x1 : Int32) (x2 : Int32) (rr : Int32 × (Nat → Int32) × Int32 × Int32 × Int32) (h : f_X9_best fu m_hosts m_lost m_wait m_per m_made m_madeMany m_lacking x1 x2 = some rr) : zM l G cy yX9_best wsX9_best (zR 5 131) [.ref (mq 0), .int x1, .int x2] (wM cy mq m_hosts m_lost m_late m_wait m_per m_blocks m_sends m_many m_made m_madeMany m_lacking m_thrown m_now m_ahead m_then m_time m_timeThen m_isThere m_comes) (wM cy mq m_hosts m_lost m_late m_wait m_per m_blocks m_sends m_many rr.2.1 rr.2.2.1 rr.2.2.2.1 rr.2.2.2.2 m_now m_ahead m_then m_time m_timeThen m_isThere m_comes) (some (.int rr.1)) := by
  refine zM.mk (cc := cX9_best) (nL := 7) (ret := (some .int)) (by decide) rfl (Nat.le_of_ble_eq_true rfl) ?_
  intro p e s m below meth c A ls X hr hH hl
  replace X : zX p s m [.ref (mq 0), .int x1, .int x2].toArray meth c RX9 cX9_best 7 wsX9_best G cy A := X
  have hx := X.1.1
  have hb := X.1.2.1
  replace hl : lv_has ls 7 [(0, .ref (mq 0)), (1, .int x1), (2, .int x2)] := hl
  dsimp only [f_X9_best] at h
  refine lv_aload_n (pc := 0) hx hb dX9_best_0 rfl (lv_at hl 0 rfl) ?_
  refine lv_iconst (v := 0) (pc := 1) hx hb dX9_best_1 zk_c0 ?_
  refine z_put (pc := 2) (v := .int 0) (ws' := wM cy mq m_hosts m_lost m_late m_wait m_per m_blocks m_sends m_many m_made m_madeMany m_lacking 0 m_now m_ahead m_then m_time m_timeThen m_isThere m_comes) X iX9_best_X9 tyX9 tyX9_ok nmX9 hH 0 rfl rfl 11 rfl (List.mem_of_getElem? (i := 1) rfl) rfl rfl rfl rfl rfl dX9_best_2 (fun H locs hH => ?_)
  refine lv_aload_n (pc := 5) hx hb dX9_best_5 rfl (lv_at hl 0 rfl) ?_
  refine lv_iload_n (pc := 6) hx hb dX9_best_6 rfl (lv_at hl 1 rfl) ?_
  refine lv_iload_n (pc := 7) hx hb dX9_best_7 rfl (lv_at hl 2 rfl) ?_
  obtain ⟨zr1, hzr1, h⟩ := zb h
  refine zcV (pc := 8) (As := [.int x1, .int x2]) (rest := []) (st1 := [.int zr1]) (ws' := wM cy mq m_hosts m_lost m_late m_wait m_per m_blocks m_sends m_many m_made m_madeMany m_lacking 0 m_now m_ahead m_then m_time m_timeThen m_isThere m_comes) (wr := []) (n := 2) (q0 := 0) X (c_X9_isAsk l G cy fu mq m_hosts m_lost m_late m_wait m_per m_blocks m_sends m_many m_made m_madeMany m_lacking 0 m_now m_ahead m_then m_time m_timeThen m_isThere m_comes x1 x2 zr1 hzr1) hH [0, 1, 2, 3, 4, 5, 6, 7, 8, 9, 10, 11, 12, 13, 14] [] [0, 1, 2, 3, 4, 5, 6, 7, 8, 9, 10, 11, 12, 13, 14] rfl rfl rfl rfl gX9_best_X9_isAsk rfl ⟨rfl, rfl⟩ kX9_isAsk ⟨Nat.le_of_ble_eq_true rfl, Nat.le_of_ble_eq_true rfl⟩ rfl rfl rfl rfl rfl hl.1 (Nat.le_of_ble_eq_true rfl) ⟨Nat.le_of_ble_eq_true rfl, Nat.le_of_ble_eq_true rfl⟩ dX9_best_8 (fun H locs hH => ?_)
  refine lv_if_ne (pc := 11) (tgt := 16) hx hb dX9_best_11 rfl (fun zc2 => ?_) (fun zc2 => ?_)
  · have h := zf zc2 h
    refine lv_bipush (v := (-2)) (pc := 16) hx hb dX9_best_16 zk_bm2 ?_
    refine lv_istore_n (pc := 18) (lv' := [(3, .int (-2)), (0, .ref (mq 0)), (1, .int x1), (2, .int x2)]) hx hb dX9_best_18 rfl hl (by decide) rfl (fun ls hl => ?_)
    refine lv_iconst (v := 0) (pc := 19) hx hb dX9_best_19 zk_c0 ?_
    refine lv_istore (pc := 20) (lv' := [(4, .int 0), (3, .int (-2)), (0, .ref (mq 0)), (1, .int x1), (2, .int x2)]) hx hb dX9_best_20 hl (by decide) rfl (fun ls hl => ?_)
    refine lv_iconst (v := 0) (pc := 22) hx hb dX9_best_22 zk_c0 ?_
    refine lv_istore (pc := 23) (lv' := [(5, .int 0), (4, .int 0), (3, .int (-2)), (0, .ref (mq 0)), (1, .int x1), (2, .int x2)]) hx hb dX9_best_23 hl (by decide) rfl (fun ls hl => ?_)
    obtain ⟨zr3, hzr3, h⟩ := zb h
    refine w_X9_best_l25 G cy fu mq m_hosts m_lost m_late m_wait m_per m_blocks m_sends m_many 0 m_now m_ahead m_then m_time m_timeThen m_isThere m_comes x1 x2 X fu (-2) 0 0 m_made m_madeMany m_lacking zr3 hzr3 _ _ _ hH (lv_sub hl [3, 4, 5, 2, 1, 0] rfl) (fun H locs ls hH hl => ?_)
    refine lv_iload_n (pc := 86) hx hb dX9_best_86 rfl (lv_at hl 0 rfl) ?_
    obtain rfl := Option.some.inj h
    exact z_iret X hr hH dX9_best_87
  have h := zt zc2 h
  refine lv_iconst (v := (-1)) (pc := 14) hx hb dX9_best_14 zk_cm1 ?_
  obtain rfl := Option.some.inj h
  exact z_iret X hr hH dX9_best_15
