set_option maxHeartbeats 4000000 in
set_option maxRecDepth 100000 in
theorem w_X9_unlink_l2 {p : Program} {l : Launch} {e : Env} {s : State} {m : MethodId} {args : Array Value} {below : List Frame} {meth : Method} {c : Code} {A : Nat → Prop} {Q : State → Prop} (G : va_G) (cy : Nat → ClassId) (fu : Nat) (mq : Nat → Nat) (m_hosts : Int32) (m_lost : Nat → Int32) (m_late : Nat → Int32) (m_per : Nat → Int32) (m_blocks : Nat → Int32) (m_sends : Nat → Int32) (m_many : Int32) (m_made : Nat → Int32) (m_madeMany : Int32) (m_lacking : Int32) (m_thrown : Int32) (m_now : Nat → Int32) (m_ahead : Nat → Int32) (m_then : Nat → Int32) (m_time : Nat → Int32) (m_timeThen : Nat → Int32) (m_isThere : Nat → Int32) (m_comes : Nat → Int32) (X : zX p s m args meth c RX9 cX9_unlink 2 wsX9_unlink G cy A) : ∀ (n : Nat) (x1 : Int32) (m_wait : Nat → Int32) (rr : (Nat → Int32)) (h : lp (f_X9_unlink_l2 fu) n (x1, m_wait) = some rr) (H : Heap) (locs : List Loc) (ls : Array Slot) (hH : zH G A s.heap (wM cy mq m_hosts m_lost m_late m_wait m_per m_blocks m_sends m_many m_made m_madeMany m_lacking m_thrown m_now m_ahead m_then m_time m_timeThen m_isThere m_comes) H locs) (hl : lv_has ls 2 [(0, .ref (mq 0)), (1, .int x1)]) (K0 : ∀ (H : Heap) (locs : List Loc) (ls : Array Slot), zH G A s.heap (wM cy mq m_hosts m_lost m_late rr m_per m_blocks m_sends m_many m_made m_madeMany m_lacking m_thrown m_now m_ahead m_then m_time m_timeThen m_isThere m_comes) H locs → lv_has ls 2 [] → W p l e (zR 0 0) s m args below meth c H locs 0 0 Q (F0 m 22 ls [])), W p l e (zR 0 0) s m args below meth c H locs 0 0 Q (F0 m 2 ls []) := by
  have hx := X.1.1
  have hb := X.1.2.1
  intro n
  induction n with
  | zero => intro x1 m_wait rr h H locs ls hH hl K0; cases h
  | succ n ih =>
    intro x1 m_wait rr h H locs ls hH hl K0
    replace h : f_X9_unlink_l2 fu (lp (f_X9_unlink_l2 fu) n) (x1, m_wait) = some rr := h
    dsimp only [f_X9_unlink_l2] at h
    refine lv_iload_n (pc := 2) hx hb dX9_unlink_2 rfl (lv_at hl 1 rfl) ?_
    refine lv_sipush (v := 256) (pc := 3) hx hb dX9_unlink_3 zk_s256 ?_
    refine lv_icmp_ge (pc := 6) (tgt := 22) hx hb dX9_unlink_6 rfl (fun zc1 => ?_) (fun zc1 => ?_)
    · have h := zt zc1 h
      obtain rfl := Option.some.inj h
      exact K0 _ _ _ hH (lv_sub hl [] rfl)
    have h := zf zc1 h
    refine lv_aload_n (pc := 9) hx hb dX9_unlink_9 rfl (lv_at hl 0 rfl) ?_
    refine z_get (pc := 10) (v := .ref (mq 3)) X iX9_unlink_X9 hH 0 rfl rfl 3 rfl (List.mem_of_getElem? (i := 1) rfl) rfl dX9_unlink_10 ?_
    refine lv_iload_n (pc := 13) hx hb dX9_unlink_13 rfl (lv_at hl 1 rfl) ?_
    refine lv_iconst (v := (-1)) (pc := 14) hx hb dX9_unlink_14 zk_cm1 ?_
    obtain ⟨hin, h⟩ := zg h
    refine z_iast (pc := 15) (ws' := wM cy mq m_hosts m_lost m_late (upd m_wait (x1).toNatClampNeg (-1)) m_per m_blocks m_sends m_many m_made m_madeMany m_lacking m_thrown m_now m_ahead m_then m_time m_timeThen m_isThere m_comes) X hH 3 rfl hin rfl dX9_unlink_15 (fun H locs hH => ?_)
    refine lv_iinc (pc := 16) (v := (x1 + 1)) (lv' := [(1, .int (x1 + 1)), (0, .ref (mq 0))]) hx hb dX9_unlink_16 hl (k := 1) rfl (by rw [zk_c1]) (by decide) rfl (fun ls hl => ?_)
    refine lv_goto (pc := 19) (tgt := 2) hx hb dX9_unlink_19 rfl ?_
    exact ih (x1 + 1) (upd m_wait (x1).toNatClampNeg (-1)) rr h _ _ _ hH (lv_sub hl [1, 0] rfl) K0
set_option maxHeartbeats 4000000 in
set_option maxRecDepth 100000 in
theorem c_X9_unlink (l : Launch) (G : va_G) (cy : Nat → ClassId) (fu : Nat) (mq : Nat → Nat) (m_hosts : Int32) (m_lost : Nat → Int32) (m_late : Nat → Int32) (m_wait : Nat → Int32) (m_per : Nat → Int32) (m_blocks : Nat → Int32) (m_sends : Nat → Int32) (m_many : Int32) (m_made : Nat → Int32) (m_madeMany : Int32) (m_lacking : Int32) (m_thrown : Int32) (m_now : Nat → Int32) (m_ahead : Nat → Int32) (m_then : Nat → Int32) (m_time : Nat → Int32) (m_timeThen : Nat → Int32) (m_isThere : Nat → Int32) (m_comes : Nat → Int32)  (rr : (Nat → Int32)) (h : f_X9_unlink fu m_wait = some rr) : zM l G cy yX9_unlink wsX9_unlink (zR 0 0) [.ref (mq 0)] (wM cy mq m_hosts m_lost m_late m_wait m_per m_blocks m_sends m_many m_made m_madeMany m_lacking m_thrown m_now m_ahead m_then m_time m_timeThen m_isThere m_comes) (wM cy mq m_hosts m_lost m_late rr m_per m_blocks m_sends m_many m_made m_madeMany m_lacking m_thrown m_now m_ahead m_then m_time m_timeThen m_isThere m_comes) none := by
  refine zM.mk (cc := cX9_unlink) (nL := 2) (ret := none) (by decide) rfl (Nat.le_of_ble_eq_true rfl) ?_
  intro p e s m below meth c A ls X hr hH hl
  replace X : zX p s m [.ref (mq 0)].toArray meth c RX9 cX9_unlink 2 wsX9_unlink G cy A := X
  have hx := X.1.1
  have hb := X.1.2.1
  replace hl : lv_has ls 2 [(0, .ref (mq 0))] := hl
  dsimp only [f_X9_unlink] at h
  refine lv_iconst (v := 0) (pc := 0) hx hb dX9_unlink_0 zk_c0 ?_
  refine lv_istore_n (pc := 1) (lv' := [(1, .int 0), (0, .ref (mq 0))]) hx hb dX9_unlink_1 rfl hl (by decide) rfl (fun ls hl => ?_)
  obtain ⟨zr1, hzr1, h⟩ := zb h
  refine w_X9_unlink_l2 G cy fu mq m_hosts m_lost m_late m_per m_blocks m_sends m_many m_made m_madeMany m_lacking m_thrown m_now m_ahead m_then m_time m_timeThen m_isThere m_comes X fu 0 m_wait zr1 hzr1 _ _ _ hH (lv_sub hl [1, 0] rfl) (fun H locs ls hH hl => ?_)
  obtain rfl := Option.some.inj h
  exact z_vret X hr hH dX9_unlink_22
set_option maxHeartbeats 4000000 in
set_option maxRecDepth 100000 in
theorem c_X9_isHost (l : Launch) (G : va_G) (cy : Nat → ClassId) (fu : Nat) (mq : Nat → Nat) (m_hosts : Int32) (m_lost : Nat → Int32) (m_late : Nat → Int32) (m_wait : Nat → Int32) (m_per : Nat → Int32) (m_blocks : Nat → Int32) (m_sends : Nat → Int32) (m_many : Int32) (m_made : Nat → Int32) (m_madeMany : Int32) (m_lacking : Int32) (m_thrown : Int32) (m_now : Nat → Int32) (m_ahead : Nat → Int32) (m_then : Nat → Int32) (m_time : Nat → Int32) (m_timeThen : Nat → Int32) (m_isThere : Nat → Int32) (m_comes : Nat → Int32) (x1 : Int32) (rr : Int32) (h : f_X9_isHost fu m_hosts x1 = some rr) : zM l G cy yX9_isHost wsX9_isHost (zR 1 22) [.ref (mq 0), .int x1] (wM cy mq m_hosts m_lost m_late m_wait m_per m_blocks m_sends m_many m_made m_madeMany m_lacking m_thrown m_now m_ahead m_then m_time m_timeThen m_isThere m_comes) (wM cy mq m_hosts m_lost m_late m_wait m_per m_blocks m_sends m_many m_made m_madeMany m_lacking m_thrown m_now m_ahead m_then m_time m_timeThen m_isThere m_comes) (some (.int rr)) := by
  refine zM.mk (cc := cX9_isHost) (nL := 2) (ret := (some .boolean)) (by decide) rfl (Nat.le_of_ble_eq_true rfl) ?_
  intro p e s m below meth c A ls X hr hH hl
  replace X : zX p s m [.ref (mq 0), .int x1].toArray meth c RX9 cX9_isHost 2 wsX9_isHost G cy A := X
  have hx := X.1.1
  have hb := X.1.2.1
  replace hl : lv_has ls 2 [(0, .ref (mq 0)), (1, .int x1)] := hl
  dsimp only [f_X9_isHost] at h
  refine lv_iload_n (pc := 0) hx hb dX9_isHost_0 rfl (lv_at hl 1 rfl) ?_
  refine lv_iconst (v := 0) (pc := 1) hx hb dX9_isHost_1 zk_c0 ?_
  refine lv_aload_n (pc := 2) hx hb dX9_isHost_2 rfl (lv_at hl 0 rfl) ?_
  refine z_get (pc := 3) (v := .int m_hosts) X iX9_isHost_X9 hH 0 rfl rfl 0 rfl (List.mem_of_getElem? (i := 1) rfl) rfl dX9_isHost_3 ?_
  refine lv_iconst (v := 1) (pc := 6) hx hb dX9_isHost_6 zk_c1 ?_
  refine lv_isub (pc := 7) hx hb dX9_isHost_7 ?_
  obtain ⟨zr1, hzr1, h⟩ := zb h
  refine zcS (pc := 8) (As := [.int x1, .int 0, .int (m_hosts - 1)]) (rest := []) (st1 := [.int zr1]) (ws' := wM cy mq m_hosts m_lost m_late m_wait m_per m_blocks m_sends m_many m_made m_madeMany m_lacking m_thrown m_now m_ahead m_then m_time m_timeThen m_isThere m_comes) (wr := [((mq 0), .inr (8, [.int m_hosts, .ref (mq 1), .ref (mq 2), .ref (mq 3), .ref (mq 4), .ref (mq 5), .ref (mq 6), .int m_many, .ref (mq 7), .int m_madeMany, .int m_lacking, .int m_thrown, .ref (mq 8), .ref (mq 9), .ref (mq 10), .ref (mq 11), .ref (mq 12), .ref (mq 13), .ref (mq 14)])), ((mq 1), .inl (cy 2, 16, .inl m_lost)), ((mq 2), .inl (cy 0, 16, .inl m_late)), ((mq 3), .inl (cy 0, 256, .inl m_wait)), ((mq 4), .inl (cy 0, 256, .inl m_per)), ((mq 5), .inl (cy 0, 256, .inl m_blocks)), ((mq 6), .inl (cy 0, 7200, .inl m_sends)), ((mq 7), .inl (cy 0, 7200, .inl m_made)), ((mq 8), .inl (cy 3, 65536, .inl m_now)), ((mq 9), .inl (cy 3, 65536, .inl m_ahead)), ((mq 10), .inl (cy 0, 256, .inl m_then)), ((mq 11), .inl (cy 0, 16, .inl m_time)), ((mq 12), .inl (cy 0, 16, .inl m_timeThen)), ((mq 13), .inl (cy 2, 256, .inl m_isThere)), ((mq 14), .inl (cy 2, 256, .inl m_comes))]) (n := 3) X (c_X9_in l G cy fu x1 0 (m_hosts - 1) zr1 hzr1) hH [] [0, 1, 2, 3, 4, 5, 6, 7, 8, 9, 10, 11, 12, 13, 14] [0, 1, 2, 3, 4, 5, 6, 7, 8, 9, 10, 11, 12, 13, 14] rfl rfl rfl rfl gX9_isHost_X9_in rfl ⟨rfl, rfl⟩ kX9_in ⟨Nat.le_of_ble_eq_true rfl, Nat.le_of_ble_eq_true rfl⟩ rfl rfl rfl hl.1 (Nat.le_of_ble_eq_true rfl) ⟨Nat.le_of_ble_eq_true rfl, Nat.le_of_ble_eq_true rfl⟩ dX9_isHost_8 (fun H locs hH => ?_)
  obtain ⟨hin, h⟩ := zg h
  obtain rfl := Option.some.inj h
  exact z_zret X hr (Decidable.of_not_not hin) hH dX9_isHost_11
set_option maxHeartbeats 4000000 in
set_option maxRecDepth 100000 in
theorem c_X9_isLive (l : Launch) (G : va_G) (cy : Nat → ClassId) (fu : Nat) (mq : Nat → Nat) (m_hosts : Int32) (m_lost : Nat → Int32) (m_late : Nat → Int32) (m_wait : Nat → Int32) (m_per : Nat → Int32) (m_blocks : Nat → Int32) (m_sends : Nat → Int32) (m_many : Int32) (m_made : Nat → Int32) (m_madeMany : Int32) (m_lacking : Int32) (m_thrown : Int32) (m_now : Nat → Int32) (m_ahead : Nat → Int32) (m_then : Nat → Int32) (m_time : Nat → Int32) (m_timeThen : Nat → Int32) (m_isThere : Nat → Int32) (m_comes : Nat → Int32) (x1 : Int32) (rr : Int32) (h : f_X9_isLive fu m_hosts m_lost x1 = some rr) : zM l G cy yX9_isLive wsX9_isLive (zR 2 43) [.ref (mq 0), .int x1] (wM cy mq m_hosts m_lost m_late m_wait m_per m_blocks m_sends m_many m_made m_madeMany m_lacking m_thrown m_now m_ahead m_then m_time m_timeThen m_isThere m_comes) (wM cy mq m_hosts m_lost m_late m_wait m_per m_blocks m_sends m_many m_made m_madeMany m_lacking m_thrown m_now m_ahead m_then m_time m_timeThen m_isThere m_comes) (some (.int rr)) := by
  refine zM.mk (cc := cX9_isLive) (nL := 2) (ret := (some .boolean)) (by decide) rfl (Nat.le_of_ble_eq_true rfl) ?_
  intro p e s m below meth c A ls X hr hH hl
  replace X : zX p s m [.ref (mq 0), .int x1].toArray meth c RX9 cX9_isLive 2 wsX9_isLive G cy A := X
  have hx := X.1.1
  have hb := X.1.2.1
  replace hl : lv_has ls 2 [(0, .ref (mq 0)), (1, .int x1)] := hl
  dsimp only [f_X9_isLive] at h
  refine lv_aload_n (pc := 0) hx hb dX9_isLive_0 rfl (lv_at hl 0 rfl) ?_
  refine lv_iload_n (pc := 1) hx hb dX9_isLive_1 rfl (lv_at hl 1 rfl) ?_
  obtain ⟨zr1, hzr1, h⟩ := zb h
  refine zcV (pc := 2) (As := [.int x1]) (rest := []) (st1 := [.int zr1]) (ws' := wM cy mq m_hosts m_lost m_late m_wait m_per m_blocks m_sends m_many m_made m_madeMany m_lacking m_thrown m_now m_ahead m_then m_time m_timeThen m_isThere m_comes) (wr := []) (n := 1) (q0 := 0) X (c_X9_isHost l G cy fu mq m_hosts m_lost m_late m_wait m_per m_blocks m_sends m_many m_made m_madeMany m_lacking m_thrown m_now m_ahead m_then m_time m_timeThen m_isThere m_comes x1 zr1 hzr1) hH [0, 1, 2, 3, 4, 5, 6, 7, 8, 9, 10, 11, 12, 13, 14] [] [0, 1, 2, 3, 4, 5, 6, 7, 8, 9, 10, 11, 12, 13, 14] rfl rfl rfl rfl gX9_isLive_X9_isHost rfl ⟨rfl, rfl⟩ kX9_isHost ⟨Nat.le_of_ble_eq_true rfl, Nat.le_of_ble_eq_true rfl⟩ rfl rfl rfl rfl rfl hl.1 (Nat.le_of_ble_eq_true rfl) ⟨Nat.le_of_ble_eq_true rfl, Nat.le_of_ble_eq_true rfl⟩ dX9_isLive_2 (fun H locs hH => ?_)
  refine lv_if_eq (pc := 5) (tgt := 21) hx hb dX9_isLive_5 rfl (fun zc2 => ?_) (fun zc2 => ?_)
  · have h := zt zc2 h
    refine lv_iconst (v := 0) (pc := 21) hx hb dX9_isLive_21 zk_c0 ?_
    obtain rfl := Option.some.inj h
    exact z_zret X hr (Or.inl rfl) hH dX9_isLive_22
  have h := zf zc2 h
  refine lv_aload_n (pc := 8) hx hb dX9_isLive_8 rfl (lv_at hl 0 rfl) ?_
  refine z_get (pc := 9) (v := .ref (mq 1)) X iX9_isLive_X9 hH 0 rfl rfl 1 rfl (List.mem_of_getElem? (i := 1) rfl) rfl dX9_isLive_9 ?_
  refine lv_iload_n (pc := 12) hx hb dX9_isLive_12 rfl (lv_at hl 1 rfl) ?_
  obtain ⟨hin, h⟩ := zg h
  refine z_zald (pc := 13) X hH 1 rfl hin dX9_isLive_13 ?_
  refine lv_if_ne (pc := 14) (tgt := 21) hx hb dX9_isLive_14 rfl (fun zc3 => ?_) (fun zc3 => ?_)
  · have h := zf zc3 h
    refine lv_iconst (v := 0) (pc := 21) hx hb dX9_isLive_21 zk_c0 ?_
    obtain rfl := Option.some.inj h
    exact z_zret X hr (Or.inl rfl) hH dX9_isLive_22
  have h := zt zc3 h
  refine lv_iconst (v := 1) (pc := 17) hx hb dX9_isLive_17 zk_c1 ?_
  refine lv_goto (pc := 18) (tgt := 22) hx hb dX9_isLive_18 rfl ?_
  obtain rfl := Option.some.inj h
  exact z_zret X hr (Or.inr rfl) hH dX9_isLive_22
set_option maxHeartbeats 4000000 in
set_option maxRecDepth 100000 in
theorem c_X9_areJoined (l : Launch) (G : va_G) (cy : Nat → ClassId) (fu : Nat) (mq : Nat → Nat) (m_hosts : Int32) (m_lost : Nat → Int32) (m_late : Nat → Int32) (m_wait : Nat → Int32) (m_per : Nat → Int32) (m_blocks : Nat → Int32) (m_sends : Nat → Int32) (m_many : Int32) (m_made : Nat → Int32) (m_madeMany : Int32) (m_lacking : Int32) (m_thrown : Int32) (m_now : Nat → Int32) (m_ahead : Nat → Int32) (m_then : Nat → Int32) (m_time : Nat → Int32) (m_timeThen : Nat → Int32) (m_isThere : Nat → Int32) (m_comes : Nat → Int32) (x1 : Int32) (x2 : Int32) (rr : Int32) (h : f_X9_areJoined fu m_wait x1 x2 = some rr) : zM l G cy yX9_areJoined wsX9_areJoined (zR 0 0) [.ref (mq 0), .int x1, .int x2] (wM cy mq m_hosts m_lost m_late m_wait m_per m_blocks m_sends m_many m_made m_madeMany m_lacking m_thrown m_now m_ahead m_then m_time m_timeThen m_isThere m_comes) (wM cy mq m_hosts m_lost m_late m_wait m_per m_blocks m_sends m_many m_made m_madeMany m_lacking m_thrown m_now m_ahead m_then m_time m_timeThen m_isThere m_comes) (some (.int rr)) := by
  refine zM.mk (cc := cX9_areJoined) (nL := 3) (ret := (some .boolean)) (by decide) rfl (Nat.le_of_ble_eq_true rfl) ?_
  intro p e s m below meth c A ls X hr hH hl
  replace X : zX p s m [.ref (mq 0), .int x1, .int x2].toArray meth c RX9 cX9_areJoined 3 wsX9_areJoined G cy A := X
  have hx := X.1.1
  have hb := X.1.2.1
  replace hl : lv_has ls 3 [(0, .ref (mq 0)), (1, .int x1), (2, .int x2)] := hl
  dsimp only [f_X9_areJoined] at h
  refine lv_aload_n (pc := 0) hx hb dX9_areJoined_0 rfl (lv_at hl 0 rfl) ?_
  refine z_get (pc := 1) (v := .ref (mq 3)) X iX9_areJoined_X9 hH 0 rfl rfl 3 rfl (List.mem_of_getElem? (i := 1) rfl) rfl dX9_areJoined_1 ?_
  refine lv_bipush (v := 16) (pc := 4) hx hb dX9_areJoined_4 zk_b16 ?_
  refine lv_iload_n (pc := 6) hx hb dX9_areJoined_6 rfl (lv_at hl 1 rfl) ?_
  refine lv_imul (pc := 7) hx hb dX9_areJoined_7 ?_
  refine lv_iload_n (pc := 8) hx hb dX9_areJoined_8 rfl (lv_at hl 2 rfl) ?_
  refine lv_iadd (pc := 9) hx hb dX9_areJoined_9 ?_
  obtain ⟨hin, h⟩ := zg h
  refine z_iald (pc := 10) X hH 3 rfl hin dX9_areJoined_10 ?_
  refine lv_iconst (v := (-1)) (pc := 11) hx hb dX9_areJoined_11 zk_cm1 ?_
  refine lv_icmp_eq (pc := 12) (tgt := 19) hx hb dX9_areJoined_12 rfl (fun zc1 => ?_) (fun zc1 => ?_)
  · have h := zt zc1 h
    refine lv_iconst (v := 0) (pc := 19) hx hb dX9_areJoined_19 zk_c0 ?_
    obtain rfl := Option.some.inj h
    exact z_zret X hr (Or.inl rfl) hH dX9_areJoined_20
  have h := zf zc1 h
  refine lv_iconst (v := 1) (pc := 15) hx hb dX9_areJoined_15 zk_c1 ?_
  refine lv_goto (pc := 16) (tgt := 20) hx hb dX9_areJoined_16 rfl ?_
  obtain rfl := Option.some.inj h
  exact z_zret X hr (Or.inr rfl) hH dX9_areJoined_20
set_option maxHeartbeats 4000000 in
set_option maxRecDepth 100000 in
theorem w_X9_liveMany_l4 {p : Program} {l : Launch} {e : Env} {s : State} {m : MethodId} {args : Array Value} {below : List Frame} {meth : Method} {c : Code} {A : Nat → Prop} {Q : State → Prop} (G : va_G) (cy : Nat → ClassId) (fu : Nat) (mq : Nat → Nat) (m_hosts : Int32) (m_lost : Nat → Int32) (m_late : Nat → Int32) (m_wait : Nat → Int32) (m_per : Nat → Int32) (m_blocks : Nat → Int32) (m_sends : Nat → Int32) (m_many : Int32) (m_made : Nat → Int32) (m_madeMany : Int32) (m_lacking : Int32) (m_thrown : Int32) (m_now : Nat → Int32) (m_ahead : Nat → Int32) (m_then : Nat → Int32) (m_time : Nat → Int32) (m_timeThen : Nat → Int32) (m_isThere : Nat → Int32) (m_comes : Nat → Int32) (X : zX p s m args meth c RX9 cX9_liveMany 3 wsX9_liveMany G cy A) : ∀ (n : Nat) (x1 : Int32) (x2 : Int32) (rr : Int32) (h : lp (f_X9_liveMany_l4 fu m_hosts m_lost) n (x1, x2) = some rr) (H : Heap) (locs : List Loc) (ls : Array Slot) (hH : zH G A s.heap (wM cy mq m_hosts m_lost m_late m_wait m_per m_blocks m_sends m_many m_made m_madeMany m_lacking m_thrown m_now m_ahead m_then m_time m_timeThen m_isThere m_comes) H locs) (hl : lv_has ls 3 [(0, .ref (mq 0)), (1, .int x1), (2, .int x2)]) (K0 : ∀ (H : Heap) (locs : List Loc) (ls : Array Slot), zH G A s.heap (wM cy mq m_hosts m_lost m_late m_wait m_per m_blocks m_sends m_many m_made m_madeMany m_lacking m_thrown m_now m_ahead m_then m_time m_timeThen m_isThere m_comes) H locs → lv_has ls 3 [(1, .int rr)] → W p l e (zR 0 0) s m args below meth c H locs 0 0 Q (F0 m 30 ls [])), W p l e (zR 0 0) s m args below meth c H locs 0 0 Q (F0 m 4 ls []) := by
  have hx := X.1.1
  have hb := X.1.2.1
  intro n
  induction n with
  | zero => intro x1 x2 rr h H locs ls hH hl K0; cases h
  | succ n ih =>
    intro x1 x2 rr h H locs ls hH hl K0
    replace h : f_X9_liveMany_l4 fu m_hosts m_lost (lp (f_X9_liveMany_l4 fu m_hosts m_lost) n) (x1, x2) = some rr := h
    dsimp only [f_X9_liveMany_l4] at h
    refine lv_iload_n (pc := 4) hx hb dX9_liveMany_4 rfl (lv_at hl 2 rfl) ?_
    refine lv_aload_n (pc := 5) hx hb dX9_liveMany_5 rfl (lv_at hl 0 rfl) ?_
    refine z_get (pc := 6) (v := .int m_hosts) X iX9_liveMany_X9 hH 0 rfl rfl 0 rfl (List.mem_of_getElem? (i := 1) rfl) rfl dX9_liveMany_6 ?_
    refine lv_icmp_ge (pc := 9) (tgt := 30) hx hb dX9_liveMany_9 rfl (fun zc1 => ?_) (fun zc1 => ?_)
    · have h := zt zc1 h
      obtain rfl := Option.some.inj h
      exact K0 _ _ _ hH (lv_sub hl [1] rfl)
    have h := zf zc1 h
    refine lv_aload_n (pc := 12) hx hb dX9_liveMany_12 rfl (lv_at hl 0 rfl) ?_
    refine z_get (pc := 13) (v := .ref (mq 1)) X iX9_liveMany_X9 hH 0 rfl rfl 1 rfl (List.mem_of_getElem? (i := 2) rfl) rfl dX9_liveMany_13 ?_
    refine lv_iload_n (pc := 16) hx hb dX9_liveMany_16 rfl (lv_at hl 2 rfl) ?_
    obtain ⟨hin, h⟩ := zg h
    refine z_zald (pc := 17) X hH 1 rfl hin dX9_liveMany_17 ?_
    refine lv_if_ne (pc := 18) (tgt := 24) hx hb dX9_liveMany_18 rfl (fun zc2 => ?_) (fun zc2 => ?_)
    · have h := zf zc2 h
      refine lv_iinc (pc := 24) (v := (x2 + 1)) (lv' := [(2, .int (x2 + 1)), (0, .ref (mq 0)), (1, .int x1)]) hx hb dX9_liveMany_24 hl (k := 2) rfl (by rw [zk_c1]) (by decide) rfl (fun ls hl => ?_)
      refine lv_goto (pc := 27) (tgt := 4) hx hb dX9_liveMany_27 rfl ?_
      exact ih x1 (x2 + 1) rr h _ _ _ hH (lv_sub hl [1, 2, 0] rfl) K0
    have h := zt zc2 h
    refine lv_iinc (pc := 21) (v := (x1 + 1)) (lv' := [(1, .int (x1 + 1)), (0, .ref (mq 0)), (2, .int x2)]) hx hb dX9_liveMany_21 hl (k := 1) rfl (by rw [zk_c1]) (by decide) rfl (fun ls hl => ?_)
    refine lv_iinc (pc := 24) (v := (x2 + 1)) (lv' := [(2, .int (x2 + 1)), (1, .int (x1 + 1)), (0, .ref (mq 0))]) hx hb dX9_liveMany_24 hl (k := 2) rfl (by rw [zk_c1]) (by decide) rfl (fun ls hl => ?_)
    refine lv_goto (pc := 27) (tgt := 4) hx hb dX9_liveMany_27 rfl ?_
    exact ih (x1 + 1) (x2 + 1) rr h _ _ _ hH (lv_sub hl [2, 1, 0] rfl) K0
set_option maxHeartbeats 4000000 in
set_option maxRecDepth 100000 in
theorem c_X9_liveMany (l : Launch) (G : va_G) (cy : Nat → ClassId) (fu : Nat) (mq : Nat → Nat) (m_hosts : Int32) (m_lost : Nat → Int32) (m_late : Nat → Int32) (m_wait : Nat → Int32) (m_per : Nat → Int32) (m_blocks : Nat → Int32) (m_sends : Nat → Int32) (m_many : Int32) (m_made : Nat → Int32) (m_madeMany : Int32) (m_lacking : Int32) (m_thrown : Int32) (m_now : Nat → Int32) (m_ahead : Nat → Int32) (m_then : Nat → Int32) (m_time : Nat → Int32) (m_timeThen : Nat → Int32) (m_isThere : Nat → Int32) (m_comes : Nat → Int32)  (rr : Int32) (h : f_X9_liveMany fu m_hosts m_lost = some rr) : zM l G cy yX9_liveMany wsX9_liveMany (zR 0 0) [.ref (mq 0)] (wM cy mq m_hosts m_lost m_late m_wait m_per m_blocks m_sends m_many m_made m_madeMany m_lacking m_thrown m_now m_ahead m_then m_time m_timeThen m_isThere m_comes) (wM cy mq m_hosts m_lost m_late m_wait m_per m_blocks m_sends m_many m_made m_madeMany m_lacking m_thrown m_now m_ahead m_then m_time m_timeThen m_isThere m_comes) (some (.int rr)) := by
  refine zM.mk (cc := cX9_liveMany) (nL := 3) (ret := (some .int)) (by decide) rfl (Nat.le_of_ble_eq_true rfl) ?_
  intro p e s m below meth c A ls X hr hH hl
  replace X : zX p s m [.ref (mq 0)].toArray meth c RX9 cX9_liveMany 3 wsX9_liveMany G cy A := X
  have hx := X.1.1
  have hb := X.1.2.1
  replace hl : lv_has ls 3 [(0, .ref (mq 0))] := hl
  dsimp only [f_X9_liveMany] at h
  refine lv_iconst (v := 0) (pc := 0) hx hb dX9_liveMany_0 zk_c0 ?_
  refine lv_istore_n (pc := 1) (lv' := [(1, .int 0), (0, .ref (mq 0))]) hx hb dX9_liveMany_1 rfl hl (by decide) rfl (fun ls hl => ?_)
  refine lv_iconst (v := 0) (pc := 2) hx hb dX9_liveMany_2 zk_c0 ?_
  refine lv_istore_n (pc := 3) (lv' := [(2, .int 0), (1, .int 0), (0, .ref (mq 0))]) hx hb dX9_liveMany_3 rfl hl (by decide) rfl (fun ls hl => ?_)
  obtain ⟨zr1, hzr1, h⟩ := zb h
  refine w_X9_liveMany_l4 G cy fu mq m_hosts m_lost m_late m_wait m_per m_blocks m_sends m_many m_made m_madeMany m_lacking m_thrown m_now m_ahead m_then m_time m_timeThen m_isThere m_comes X fu 0 0 zr1 hzr1 _ _ _ hH (lv_sub hl [2, 1, 0] rfl) (fun H locs ls hH hl => ?_)
  refine lv_iload_n (pc := 30) hx hb dX9_liveMany_30 rfl (lv_at hl 0 rfl) ?_
  obtain rfl := Option.some.inj h
  exact z_iret X hr hH dX9_liveMany_31
set_option maxHeartbeats 4000000 in
set_option maxRecDepth 100000 in
theorem w_X9_hostOf_l4 {p : Program} {l : Launch} {e : Env} {s : State} {m : MethodId} {args : Array Value} {below : List Frame} {meth : Method} {c : Code} {A : Nat → Prop} {Q : State → Prop} (G : va_G) (cy : Nat → ClassId) (fu : Nat) (mq : Nat → Nat) (m_hosts : Int32) (m_lost : Nat → Int32) (m_late : Nat → Int32) (m_wait : Nat → Int32) (m_per : Nat → Int32) (m_blocks : Nat → Int32) (m_sends : Nat → Int32) (m_many : Int32) (m_made : Nat → Int32) (m_madeMany : Int32) (m_lacking : Int32) (m_thrown : Int32) (m_now : Nat → Int32) (m_ahead : Nat → Int32) (m_then : Nat → Int32) (m_time : Nat → Int32) (m_timeThen : Nat → Int32) (m_isThere : Nat → Int32) (m_comes : Nat → Int32) (X : zX p s m args meth c RX9 cX9_hostOf 4 wsX9_hostOf G cy A) : ∀ (n : Nat) (x2 : Int32) (x3 : Int32) (rr : Int32) (h : lp (f_X9_hostOf_l4 fu m_lost) n (x2, x3) = some rr) (H : Heap) (locs : List Loc) (ls : Array Slot) (hH : zH G A s.heap (wM cy mq m_hosts m_lost m_late m_wait m_per m_blocks m_sends m_many m_made m_madeMany m_lacking m_thrown m_now m_ahead m_then m_time m_timeThen m_isThere m_comes) H locs) (hl : lv_has ls 4 [(0, .ref (mq 0)), (2, .int x2), (3, .int x3)]) (K0 : ∀ (H : Heap) (locs : List Loc) (ls : Array Slot), zH G A s.heap (wM cy mq m_hosts m_lost m_late m_wait m_per m_blocks m_sends m_many m_made m_madeMany m_lacking m_thrown m_now m_ahead m_then m_time m_timeThen m_isThere m_comes) H locs → lv_has ls 4 [(3, .int rr)] → W p l e (zR 0 0) s m args below meth c H locs 0 0 Q (F0 m 35 ls [])), W p l e (zR 0 0) s m args below meth c H locs 0 0 Q (F0 m 4 ls []) := by
  have hx := X.1.1
  have hb := X.1.2.1
  intro n
  induction n with
  | zero => intro x2 x3 rr h H locs ls hH hl K0; cases h
  | succ n ih =>
    intro x2 x3 rr h H locs ls hH hl K0
    replace h : f_X9_hostOf_l4 fu m_lost (lp (f_X9_hostOf_l4 fu m_lost) n) (x2, x3) = some rr := h
    dsimp only [f_X9_hostOf_l4] at h
    refine lv_aload_n (pc := 4) hx hb dX9_hostOf_4 rfl (lv_at hl 0 rfl) ?_
    refine z_get (pc := 5) (v := .ref (mq 1)) X iX9_hostOf_X9 hH 0 rfl rfl 1 rfl (List.mem_of_getElem? (i := 1) rfl) rfl dX9_hostOf_5 ?_
    refine lv_iload_n (pc := 8) hx hb dX9_hostOf_8 rfl (lv_at hl 2 rfl) ?_
    obtain ⟨hin, h⟩ := zg h
    refine z_zald (pc := 9) X hH 1 rfl hin dX9_hostOf_9 ?_
    refine lv_if_ne (pc := 10) (tgt := 17) hx hb dX9_hostOf_10 rfl (fun zc1 => ?_) (fun zc1 => ?_)
    · have h := zf zc1 h
      refine lv_aload_n (pc := 17) hx hb dX9_hostOf_17 rfl (lv_at hl 0 rfl) ?_
      refine z_get (pc := 18) (v := .ref (mq 1)) X iX9_hostOf_X9 hH 0 rfl rfl 1 rfl (List.mem_of_getElem? (i := 1) rfl) rfl dX9_hostOf_18 ?_
      refine lv_iload_n (pc := 21) hx hb dX9_hostOf_21 rfl (lv_at hl 2 rfl) ?_
      obtain ⟨hin, h⟩ := zg h
      refine z_zald (pc := 22) X hH 1 rfl hin dX9_hostOf_22 ?_
      refine lv_if_ne (pc := 23) (tgt := 29) hx hb dX9_hostOf_23 rfl (fun zc2 => ?_) (fun zc2 => ?_)
      · refine lv_iinc (pc := 29) (v := (x3 + 1)) (lv' := [(3, .int (x3 + 1)), (0, .ref (mq 0)), (2, .int x2)]) hx hb dX9_hostOf_29 hl (k := 2) rfl (by rw [zk_c1]) (by decide) rfl (fun ls hl => ?_)
        refine lv_goto (pc := 32) (tgt := 4) hx hb dX9_hostOf_32 rfl ?_
        exact ih x2 (x3 + 1) rr h _ _ _ hH (lv_sub hl [1, 2, 0] rfl) K0
      exact absurd zc2 zc1
    have h := zt zc1 h
    refine lv_iload_n (pc := 13) hx hb dX9_hostOf_13 rfl (lv_at hl 1 rfl) ?_
    refine lv_if_le (pc := 14) (tgt := 35) hx hb dX9_hostOf_14 rfl (fun zc3 => ?_) (fun zc3 => ?_)
    · have h := zt zc3 h
      obtain rfl := Option.some.inj h
      exact K0 _ _ _ hH (lv_sub hl [2] rfl)
    have h := zf zc3 h
    refine lv_aload_n (pc := 17) hx hb dX9_hostOf_17 rfl (lv_at hl 0 rfl) ?_
    refine z_get (pc := 18) (v := .ref (mq 1)) X iX9_hostOf_X9 hH 0 rfl rfl 1 rfl (List.mem_of_getElem? (i := 1) rfl) rfl dX9_hostOf_18 ?_
    refine lv_iload_n (pc := 21) hx hb dX9_hostOf_21 rfl (lv_at hl 2 rfl) ?_
    obtain ⟨hin, h⟩ := zg h
    refine z_zald (pc := 22) X hH 1 rfl hin dX9_hostOf_22 ?_
    refine lv_if_ne (pc := 23) (tgt := 29) hx hb dX9_hostOf_23 rfl (fun zc4 => ?_) (fun zc4 => ?_)
    · exact absurd zc1 zc4
    refine lv_iinc (pc := 26) (v := (x2 + (-1))) (lv' := [(2, .int (x2 + (-1))), (0, .ref (mq 0)), (3, .int x3)]) hx hb dX9_hostOf_26 hl (k := 1) rfl (by rw [zk_cm1]) (by decide) rfl (fun ls hl => ?_)
    refine lv_iinc (pc := 29) (v := (x3 + 1)) (lv' := [(3, .int (x3 + 1)), (2, .int (x2 + (-1))), (0, .ref (mq 0))]) hx hb dX9_hostOf_29 hl (k := 2) rfl (by rw [zk_c1]) (by decide) rfl (fun ls hl => ?_)
    refine lv_goto (pc := 32) (tgt := 4) hx hb dX9_hostOf_32 rfl ?_
    exact ih (x2 + (-1)) (x3 + 1) rr h _ _ _ hH (lv_sub hl [2, 1, 0] rfl) K0
set_option maxHeartbeats 4000000 in
set_option maxRecDepth 100000 in
theorem c_X9_hostOf (l : Launch) (G : va_G) (cy : Nat → ClassId) (fu : Nat) (mq : Nat → Nat) (m_hosts : Int32) (m_lost : Nat → Int32) (m_late : Nat → Int32) (m_wait : Nat → Int32) (m_per : Nat → Int32) (m_blocks : Nat → Int32) (m_sends : Nat → Int32) (m_many : Int32) (m_made : Nat → Int32) (m_madeMany : Int32) (m_lacking : Int32) (m_thrown : Int32) (m_now : Nat → Int32) (m_ahead : Nat → Int32) (m_then : Nat → Int32) (m_time : Nat → Int32) (m_timeThen : Nat → Int32) (m_isThere : Nat → Int32) (m_comes : Nat → Int32) (x1 : Int32) (rr : Int32) (h : f_X9_hostOf fu m_lost x1 = some rr) : zM l G cy yX9_hostOf wsX9_hostOf (zR 0 0) [.ref (mq 0), .int x1] (wM cy mq m_hosts m_lost m_late m_wait m_per m_blocks m_sends m_many m_made m_madeMany m_lacking m_thrown m_now m_ahead m_then m_time m_timeThen m_isThere m_comes) (wM cy mq m_hosts m_lost m_late m_wait m_per m_blocks m_sends m_many m_made m_madeMany m_lacking m_thrown m_now m_ahead m_then m_time m_timeThen m_isThere m_comes) (some (.int rr)) := by
  refine zM.mk (cc := cX9_hostOf) (nL := 4) (ret := (some .int)) (by decide) rfl (Nat.le_of_ble_eq_true rfl) ?_
  intro p e s m below meth c A ls X hr hH hl
  replace X : zX p s m [.ref (mq 0), .int x1].toArray meth c RX9 cX9_hostOf 4 wsX9_hostOf G cy A := X
  have hx := X.1.1
  have hb := X.1.2.1
  replace hl : lv_has ls 4 [(0, .ref (mq 0)), (1, .int x1)] := hl
  dsimp only [f_X9_hostOf] at h
  refine lv_iload_n (pc := 0) hx hb dX9_hostOf_0 rfl (lv_at hl 1 rfl) ?_
  refine lv_istore_n (pc := 1) (lv' := [(2, .int x1), (0, .ref (mq 0)), (1, .int x1)]) hx hb dX9_hostOf_1 rfl hl (by decide) rfl (fun ls hl => ?_)
  refine lv_iconst (v := 0) (pc := 2) hx hb dX9_hostOf_2 zk_c0 ?_
  refine lv_istore_n (pc := 3) (lv' := [(3, .int 0), (2, .int x1), (0, .ref (mq 0)), (1, .int x1)]) hx hb dX9_hostOf_3 rfl hl (by decide) rfl (fun ls hl => ?_)
  obtain ⟨zr1, hzr1, h⟩ := zb h
  refine w_X9_hostOf_l4 G cy fu mq m_hosts m_lost m_late m_wait m_per m_blocks m_sends m_many m_made m_madeMany m_lacking m_thrown m_now m_ahead m_then m_time m_timeThen m_isThere m_comes X fu x1 0 zr1 hzr1 _ _ _ hH (lv_sub hl [2, 1, 0] rfl) (fun H locs ls hH hl => ?_)
  refine lv_iload_n (pc := 35) hx hb dX9_hostOf_35 rfl (lv_at hl 0 rfl) ?_
  obtain rfl := Option.some.inj h
  exact z_iret X hr hH dX9_hostOf_36
set_option maxHeartbeats 4000000 in
set_option maxRecDepth 100000 in
theorem w_X9_rankOf_l4 {p : Program} {l : Launch} {e : Env} {s : State} {m : MethodId} {args : Array Value} {below : List Frame} {meth : Method} {c : Code} {A : Nat → Prop} {Q : State → Prop} (G : va_G) (cy : Nat → ClassId) (fu : Nat) (mq : Nat → Nat) (m_hosts : Int32) (m_lost : Nat → Int32) (m_late : Nat → Int32) (m_wait : Nat → Int32) (m_per : Nat → Int32) (m_blocks : Nat → Int32) (m_sends : Nat → Int32) (m_many : Int32) (m_made : Nat → Int32) (m_madeMany : Int32) (m_lacking : Int32) (m_thrown : Int32) (m_now : Nat → Int32) (m_ahead : Nat → Int32) (m_then : Nat → Int32) (m_time : Nat → Int32) (m_timeThen : Nat → Int32) (m_isThere : Nat → Int32) (m_comes : Nat → Int32) (x1 : Int32) (X : zX p s m args meth c RX9 cX9_rankOf 4 wsX9_rankOf G cy A) : ∀ (n : Nat) (x2 : Int32) (x3 : Int32) (rr : Int32) (h : lp (f_X9_rankOf_l4 fu m_lost x1) n (x2, x3) = some rr) (H : Heap) (locs : List Loc) (ls : Array Slot) (hH : zH G A s.heap (wM cy mq m_hosts m_lost m_late m_wait m_per m_blocks m_sends m_many m_made m_madeMany m_lacking m_thrown m_now m_ahead m_then m_time m_timeThen m_isThere m_comes) H locs) (hl : lv_has ls 4 [(0, .ref (mq 0)), (1, .int x1), (2, .int x2), (3, .int x3)]) (K0 : ∀ (H : Heap) (locs : List Loc) (ls : Array Slot), zH G A s.heap (wM cy mq m_hosts m_lost m_late m_wait m_per m_blocks m_sends m_many m_made m_madeMany m_lacking m_thrown m_now m_ahead m_then m_time m_timeThen m_isThere m_comes) H locs → lv_has ls 4 [(2, .int rr)] → W p l e (zR 0 0) s m args below meth c H locs 0 0 Q (F0 m 27 ls [])), W p l e (zR 0 0) s m args below meth c H locs 0 0 Q (F0 m 4 ls []) := by
  have hx := X.1.1
  have hb := X.1.2.1
  intro n
  induction n with
  | zero => intro x2 x3 rr h H locs ls hH hl K0; cases h
  | succ n ih =>
    intro x2 x3 rr h H locs ls hH hl K0
    replace h : f_X9_rankOf_l4 fu m_lost x1 (lp (f_X9_rankOf_l4 fu m_lost x1) n) (x2, x3) = some rr := h
    dsimp only [f_X9_rankOf_l4] at h
    refine lv_iload_n (pc := 4) hx hb dX9_rankOf_4 rfl (lv_at hl 3 rfl) ?_
    refine lv_iload_n (pc := 5) hx hb dX9_rankOf_5 rfl (lv_at hl 1 rfl) ?_
    refine lv_icmp_ge (pc := 6) (tgt := 27) hx hb dX9_rankOf_6 rfl (fun zc1 => ?_) (fun zc1 => ?_)
    · have h := zt zc1 h
      obtain rfl := Option.some.inj h
      exact K0 _ _ _ hH (lv_sub hl [2] rfl)
    have h := zf zc1 h
    refine lv_aload_n (pc := 9) hx hb dX9_rankOf_9 rfl (lv_at hl 0 rfl) ?_
    refine z_get (pc := 10) (v := .ref (mq 1)) X iX9_rankOf_X9 hH 0 rfl rfl 1 rfl (List.mem_of_getElem? (i := 1) rfl) rfl dX9_rankOf_10 ?_
    refine lv_iload_n (pc := 13) hx hb dX9_rankOf_13 rfl (lv_at hl 3 rfl) ?_
    obtain ⟨hin, h⟩ := zg h
    refine z_zald (pc := 14) X hH 1 rfl hin dX9_rankOf_14 ?_
    refine lv_if_ne (pc := 15) (tgt := 21) hx hb dX9_rankOf_15 rfl (fun zc2 => ?_) (fun zc2 => ?_)
    · have h := zf zc2 h
      refine lv_iinc (pc := 21) (v := (x3 + 1)) (lv' := [(3, .int (x3 + 1)), (0, .ref (mq 0)), (1, .int x1), (2, .int x2)]) hx hb dX9_rankOf_21 hl (k := 3) rfl (by rw [zk_c1]) (by decide) rfl (fun ls hl => ?_)
      refine lv_goto (pc := 24) (tgt := 4) hx hb dX9_rankOf_24 rfl ?_
      exact ih x2 (x3 + 1) rr h _ _ _ hH (lv_sub hl [1, 2, 3, 0] rfl) K0
    have h := zt zc2 h
    refine lv_iinc (pc := 18) (v := (x2 + 1)) (lv' := [(2, .int (x2 + 1)), (0, .ref (mq 0)), (1, .int x1), (3, .int x3)]) hx hb dX9_rankOf_18 hl (k := 2) rfl (by rw [zk_c1]) (by decide) rfl (fun ls hl => ?_)
    refine lv_iinc (pc := 21) (v := (x3 + 1)) (lv' := [(3, .int (x3 + 1)), (2, .int (x2 + 1)), (0, .ref (mq 0)), (1, .int x1)]) hx hb dX9_rankOf_21 hl (k := 3) rfl (by rw [zk_c1]) (by decide) rfl (fun ls hl => ?_)
    refine lv_goto (pc := 24) (tgt := 4) hx hb dX9_rankOf_24 rfl ?_
    exact ih (x2 + 1) (x3 + 1) rr h _ _ _ hH (lv_sub hl [2, 3, 1, 0] rfl) K0
set_option maxHeartbeats 4000000 in
set_option maxRecDepth 100000 in
theorem c_X9_rankOf (l : Launch) (G : va_G) (cy : Nat → ClassId) (fu : Nat) (mq : Nat → Nat) (m_hosts : Int32) (m_lost : Nat → Int32) (m_late : Nat → Int32) (m_wait : Nat → Int32) (m_per : Nat → Int32) (m_blocks : Nat → Int32) (m_sends : Nat → Int32) (m_many : Int32) (m_made : Nat → Int32) (m_madeMany : Int32) (m_lacking : Int32) (m_thrown : Int32) (m_now : Nat → Int32) (m_ahead : Nat → Int32) (m_then : Nat → Int32) (m_time : Nat → Int32) (m_timeThen : Nat → Int32) (m_isThere : Nat → Int32) (m_comes : Nat → Int32) (x1 : Int32) (rr : Int32) (h : f_X9_rankOf fu m_lost x1 = some rr) : zM l G cy yX9_rankOf wsX9_rankOf (zR 0 0) [.ref (mq 0), .int x1] (wM cy mq m_hosts m_lost m_late m_wait m_per m_blocks m_sends m_many m_made m_madeMany m_lacking m_thrown m_now m_ahead m_then m_time m_timeThen m_isThere m_comes) (wM cy mq m_hosts m_lost m_late m_wait m_per m_blocks m_sends m_many m_made m_madeMany m_lacking m_thrown m_now m_ahead m_then m_time m_timeThen m_isThere m_comes) (some (.int rr)) := by
  refine zM.mk (cc := cX9_rankOf) (nL := 4) (ret := (some .int)) (by decide) rfl (Nat.le_of_ble_eq_true rfl) ?_
  intro p e s m below meth c A ls X hr hH hl
  replace X : zX p s m [.ref (mq 0), .int x1].toArray meth c RX9 cX9_rankOf 4 wsX9_rankOf G cy A := X
  have hx := X.1.1
  have hb := X.1.2.1
  replace hl : lv_has ls 4 [(0, .ref (mq 0)), (1, .int x1)] := hl
  dsimp only [f_X9_rankOf] at h
  refine lv_iconst (v := 0) (pc := 0) hx hb dX9_rankOf_0 zk_c0 ?_
  refine lv_istore_n (pc := 1) (lv' := [(2, .int 0), (0, .ref (mq 0)), (1, .int x1)]) hx hb dX9_rankOf_1 rfl hl (by decide) rfl (fun ls hl => ?_)
  refine lv_iconst (v := 0) (pc := 2) hx hb dX9_rankOf_2 zk_c0 ?_
  refine lv_istore_n (pc := 3) (lv' := [(3, .int 0), (2, .int 0), (0, .ref (mq 0)), (1, .int x1)]) hx hb dX9_rankOf_3 rfl hl (by decide) rfl (fun ls hl => ?_)
  obtain ⟨zr1, hzr1, h⟩ := zb h
  refine w_X9_rankOf_l4 G cy fu mq m_hosts m_lost m_late m_wait m_per m_blocks m_sends m_many m_made m_madeMany m_lacking m_thrown m_now m_ahead m_then m_time m_timeThen m_isThere m_comes x1 X fu 0 0 zr1 hzr1 _ _ _ hH (lv_sub hl [2, 3, 1, 0] rfl) (fun H locs ls hH hl => ?_)
  refine lv_iload_n (pc := 27) hx hb dX9_rankOf_27 rfl (lv_at hl 0 rfl) ?_
  obtain rfl := Option.some.inj h
  exact z_iret X hr hH dX9_rankOf_28
set_option maxHeartbeats 4000000 in
set_option maxRecDepth 100000 in
theorem w_X9_hosts_l24 {p : Program} {l : Launch} {e : Env} {s : State} {m : MethodId} {args : Array Value} {below : List Frame} {meth : Method} {c : Code} {A : Nat → Prop} {Q : State → Prop} (G : va_G) (cy : Nat → ClassId) (fu : Nat) (mq : Nat → Nat) (m_hosts : Int32) (m_wait : Nat → Int32) (m_per : Nat → Int32) (m_blocks : Nat → Int32) (m_sends : Nat → Int32) (m_many : Int32) (m_made : Nat → Int32) (m_madeMany : Int32) (m_lacking : Int32) (m_thrown : Int32) (m_now : Nat → Int32) (m_ahead : Nat → Int32) (m_then : Nat → Int32) (m_time : Nat → Int32) (m_timeThen : Nat → Int32) (m_isThere : Nat → Int32) (m_comes : Nat → Int32) (X : zX p s m args meth c RX9 cX9_hosts 3 wsX9_hosts G cy A) : ∀ (n : Nat) (x2 : Int32) (m_lost : Nat → Int32) (m_late : Nat → Int32) (rr : (Nat → Int32) × (Nat → Int32)) (h : lp (f_X9_hosts_l24 fu) n (x2, m_lost, m_late) = some rr) (H : Heap) (locs : List Loc) (ls : Array Slot) (hH : zH G A s.heap (wM cy mq m_hosts m_lost m_late m_wait m_per m_blocks m_sends m_many m_made m_madeMany m_lacking m_thrown m_now m_ahead m_then m_time m_timeThen m_isThere m_comes) H locs) (hl : lv_has ls 3 [(0, .ref (mq 0)), (2, .int x2)]) (K0 : ∀ (H : Heap) (locs : List Loc) (ls : Array Slot), zH G A s.heap (wM cy mq m_hosts rr.1 rr.2 m_wait m_per m_blocks m_sends m_many m_made m_madeMany m_lacking m_thrown m_now m_ahead m_then m_time m_timeThen m_isThere m_comes) H locs → lv_has ls 3 [(0, .ref (mq 0))] → W p l e (zR 1 22) s m args below meth c H locs 0 0 Q (F0 m 50 ls [])), W p l e (zR 1 22) s m args below meth c H locs 0 0 Q (F0 m 24 ls []) := by
  have hx := X.1.1
  have hb := X.1.2.1
  intro n
  induction n with
  | zero => intro x2 m_lost m_late rr h H locs ls hH hl K0; cases h
  | succ n ih =>
    intro x2 m_lost m_late rr h H locs ls hH hl K0
    replace h : f_X9_hosts_l24 fu (lp (f_X9_hosts_l24 fu) n) (x2, m_lost, m_late) = some rr := h
    dsimp only [f_X9_hosts_l24] at h
    refine lv_iload_n (pc := 24) hx hb dX9_hosts_24 rfl (lv_at hl 1 rfl) ?_
    refine lv_bipush (v := 16) (pc := 25) hx hb dX9_hosts_25 zk_b16 ?_
    refine lv_icmp_ge (pc := 27) (tgt := 50) hx hb dX9_hosts_27 rfl (fun zc1 => ?_) (fun zc1 => ?_)
    · have h := zt zc1 h
      obtain rfl := Option.some.inj h
      exact K0 _ _ _ hH (lv_sub hl [0] rfl)
    have h := zf zc1 h
    refine lv_aload_n (pc := 30) hx hb dX9_hosts_30 rfl (lv_at hl 0 rfl) ?_
    refine z_get (pc := 31) (v := .ref (mq 1)) X iX9_hosts_X9 hH 0 rfl rfl 1 rfl (List.mem_of_getElem? (i := 3) rfl) rfl dX9_hosts_31 ?_
    refine lv_iload_n (pc := 34) hx hb dX9_hosts_34 rfl (lv_at hl 1 rfl) ?_
    refine lv_iconst (v := 0) (pc := 35) hx hb dX9_hosts_35 zk_c0 ?_
    obtain ⟨hin, h⟩ := zg h
    refine z_zast (pc := 36) (ws' := wM cy mq m_hosts (upd m_lost (x2).toNatClampNeg (vp_nar .boolean 0)) m_late m_wait m_per m_blocks m_sends m_many m_made m_madeMany m_lacking m_thrown m_now m_ahead m_then m_time m_timeThen m_isThere m_comes) X hH 1 rfl hin rfl dX9_hosts_36 (fun H locs hH => ?_)
    refine lv_aload_n (pc := 37) hx hb dX9_hosts_37 rfl (lv_at hl 0 rfl) ?_
    refine z_get (pc := 38) (v := .ref (mq 2)) X iX9_hosts_X9 hH 0 rfl rfl 2 rfl (List.mem_of_getElem? (i := 4) rfl) rfl dX9_hosts_38 ?_
    refine lv_iload_n (pc := 41) hx hb dX9_hosts_41 rfl (lv_at hl 1 rfl) ?_
    refine lv_iconst (v := 0) (pc := 42) hx hb dX9_hosts_42 zk_c0 ?_
    obtain ⟨hin, h⟩ := zg h
    refine z_iast (pc := 43) (ws' := wM cy mq m_hosts (upd m_lost (x2).toNatClampNeg (vp_nar .boolean 0)) (upd m_late (x2).toNatClampNeg 0) m_wait m_per m_blocks m_sends m_many m_made m_madeMany m_lacking m_thrown m_now m_ahead m_then m_time m_timeThen m_isThere m_comes) X hH 2 rfl hin rfl dX9_hosts_43 (fun H locs hH => ?_)
    refine lv_iinc (pc := 44) (v := (x2 + 1)) (lv' := [(2, .int (x2 + 1)), (0, .ref (mq 0))]) hx hb dX9_hosts_44 hl (k := 1) rfl (by rw [zk_c1]) (by decide) rfl (fun ls hl => ?_)
    refine lv_goto (pc := 47) (tgt := 24) hx hb dX9_hosts_47 rfl ?_
    exact ih (x2 + 1) (upd m_lost (x2).toNatClampNeg (vp_nar .boolean 0)) (upd m_late (x2).toNatClampNeg 0) rr h _ _ _ hH (lv_sub hl [1, 0] rfl) K0
set_option maxHeartbeats 4000000 in
set_option maxRecDepth 100000 in
theorem w_X9_hosts_l52 {p : Program} {l : Launch} {e : Env} {s : State} {m : MethodId} {args : Array Value} {below : List Frame} {meth : Method} {c : Code} {A : Nat → Prop} {Q : State → Prop} (G : va_G) (cy : Nat → ClassId) (fu : Nat) (mq : Nat → Nat) (m_hosts : Int32) (m_lost : Nat → Int32) (m_late : Nat → Int32) (m_wait : Nat → Int32) (m_per : Nat → Int32) (m_sends : Nat → Int32) (m_many : Int32) (m_made : Nat → Int32) (m_madeMany : Int32) (m_lacking : Int32) (m_thrown : Int32) (m_now : Nat → Int32) (m_ahead : Nat → Int32) (m_then : Nat → Int32) (m_time : Nat → Int32) (m_timeThen : Nat → Int32) (m_isThere : Nat → Int32) (m_comes : Nat → Int32) (X : zX p s m args meth c RX9 cX9_hosts 3 wsX9_hosts G cy A) : ∀ (n : Nat) (x2 : Int32) (m_blocks : Nat → Int32) (rr : (Nat → Int32)) (h : lp (f_X9_hosts_l52 fu) n (x2, m_blocks) = some rr) (H : Heap) (locs : List Loc) (ls : Array Slot) (hH : zH G A s.heap (wM cy mq m_hosts m_lost m_late m_wait m_per m_blocks m_sends m_many m_made m_madeMany m_lacking m_thrown m_now m_ahead m_then m_time m_timeThen m_isThere m_comes) H locs) (hl : lv_has ls 3 [(0, .ref (mq 0)), (2, .int x2)]) (K0 : ∀ (H : Heap) (locs : List Loc) (ls : Array Slot), zH G A s.heap (wM cy mq m_hosts m_lost m_late m_wait m_per rr m_sends m_many m_made m_madeMany m_lacking m_thrown m_now m_ahead m_then m_time m_timeThen m_isThere m_comes) H locs → lv_has ls 3 [(0, .ref (mq 0))] → W p l e (zR 1 22) s m args below meth c H locs 0 0 Q (F0 m 72 ls [])), W p l e (zR 1 22) s m args below meth c H locs 0 0 Q (F0 m 52 ls []) := by
  have hx := X.1.1
  have hb := X.1.2.1
  intro n
  induction n with
  | zero => intro x2 m_blocks rr h H locs ls hH hl K0; cases h
  | succ n ih =>
    intro x2 m_blocks rr h H locs ls hH hl K0
    replace h : f_X9_hosts_l52 fu (lp (f_X9_hosts_l52 fu) n) (x2, m_blocks) = some rr := h
    dsimp only [f_X9_hosts_l52] at h
    refine lv_iload_n (pc := 52) hx hb dX9_hosts_52 rfl (lv_at hl 1 rfl) ?_
    refine lv_sipush (v := 256) (pc := 53) hx hb dX9_hosts_53 zk_s256 ?_
    refine lv_icmp_ge (pc := 56) (tgt := 72) hx hb dX9_hosts_56 rfl (fun zc1 => ?_) (fun zc1 => ?_)
    · have h := zt zc1 h
      obtain rfl := Option.some.inj h
      exact K0 _ _ _ hH (lv_sub hl [0] rfl)
    have h := zf zc1 h
    refine lv_aload_n (pc := 59) hx hb dX9_hosts_59 rfl (lv_at hl 0 rfl) ?_
    refine z_get (pc := 60) (v := .ref (mq 5)) X iX9_hosts_X9 hH 0 rfl rfl 5 rfl (List.mem_of_getElem? (i := 5) rfl) rfl dX9_hosts_60 ?_
    refine lv_iload_n (pc := 63) hx hb dX9_hosts_63 rfl (lv_at hl 1 rfl) ?_
    refine lv_iconst (v := 0) (pc := 64) hx hb dX9_hosts_64 zk_c0 ?_
    obtain ⟨hin, h⟩ := zg h
    refine z_iast (pc := 65) (ws' := wM cy mq m_hosts m_lost m_late m_wait m_per (upd m_blocks (x2).toNatClampNeg 0) m_sends m_many m_made m_madeMany m_lacking m_thrown m_now m_ahead m_then m_time m_timeThen m_isThere m_comes) X hH 5 rfl hin rfl dX9_hosts_65 (fun H locs hH => ?_)
    refine lv_iinc (pc := 66) (v := (x2 + 1)) (lv' := [(2, .int (x2 + 1)), (0, .ref (mq 0))]) hx hb dX9_hosts_66 hl (k := 1) rfl (by rw [zk_c1]) (by decide) rfl (fun ls hl => ?_)
    refine lv_goto (pc := 69) (tgt := 52) hx hb dX9_hosts_69 rfl ?_
    exact ih (x2 + 1) (upd m_blocks (x2).toNatClampNeg 0) rr h _ _ _ hH (lv_sub hl [1, 0] rfl) K0
set_option maxHeartbeats 4000000 in
set_option maxRecDepth 100000 in
theorem c_X9_hosts (l : Launch) (G : va_G) (cy : Nat → ClassId) (fu : Nat) (mq : Nat → Nat) (m_hosts : Int32) (m_lost : Nat → Int32) (m_late : Nat → Int32) (m_wait : Nat → Int32) (m_per : Nat → Int32) (m_blocks : Nat → Int32) (m_sends : Nat → Int32) (m_many : Int32) (m_made : Nat → Int32) (m_madeMany : Int32) (m_lacking : Int32) (m_thrown : Int32) (m_now : Nat → Int32) (m_ahead : Nat → Int32) (m_then : Nat → Int32) (m_time : Nat → Int32) (m_timeThen : Nat → Int32) (m_isThere : Nat → Int32) (m_comes : Nat → Int32) (x1 : Int32) (rr : Int32 × Int32 × (Nat → Int32) × (Nat → Int32) × (Nat → Int32) × (Nat → Int32) × Int32 × Int32) (h : f_X9_hosts fu m_hosts m_lost m_late m_wait m_blocks m_many x1 = some rr) : zM l G cy yX9_hosts wsX9_hosts (zR 1 22) [.ref (mq 0), .int x1] (wM cy mq m_hosts m_lost m_late m_wait m_per m_blocks m_sends m_many m_made m_madeMany m_lacking m_thrown m_now m_ahead m_then m_time m_timeThen m_isThere m_comes) (wM cy mq rr.2.1 rr.2.2.1 rr.2.2.2.1 rr.2.2.2.2.1 m_per rr.2.2.2.2.2.1 m_sends rr.2.2.2.2.2.2.1 m_made m_madeMany m_lacking rr.2.2.2.2.2.2.2 m_now m_ahead m_then m_time m_timeThen m_isThere m_comes) (some (.int rr.1)) := by
  refine zM.mk (cc := cX9_hosts) (nL := 3) (ret := (some .boolean)) (by decide) rfl (Nat.le_of_ble_eq_true rfl) ?_
  intro p e s m below meth c A ls X hr hH hl
  replace X : zX p s m [.ref (mq 0), .int x1].toArray meth c RX9 cX9_hosts 3 wsX9_hosts G cy A := X
  have hx := X.1.1
  have hb := X.1.2.1
  replace hl : lv_has ls 3 [(0, .ref (mq 0)), (1, .int x1)] := hl
  dsimp only [f_X9_hosts] at h
  refine lv_aload_n (pc := 0) hx hb dX9_hosts_0 rfl (lv_at hl 0 rfl) ?_
  refine lv_iconst (v := 0) (pc := 1) hx hb dX9_hosts_1 zk_c0 ?_
  refine z_put (pc := 2) (v := .int 0) (ws' := wM cy mq m_hosts m_lost m_late m_wait m_per m_blocks m_sends m_many m_made m_madeMany m_lacking 0 m_now m_ahead m_then m_time m_timeThen m_isThere m_comes) X iX9_hosts_X9 tyX9 tyX9_ok nmX9 hH 0 rfl rfl 11 rfl (List.mem_of_getElem? (i := 1) rfl) rfl rfl rfl rfl rfl dX9_hosts_2 (fun H locs hH => ?_)
  refine lv_iload_n (pc := 5) hx hb dX9_hosts_5 rfl (lv_at hl 1 rfl) ?_
  refine lv_iconst (v := 2) (pc := 6) hx hb dX9_hosts_6 zk_c2 ?_
  refine lv_bipush (v := 16) (pc := 7) hx hb dX9_hosts_7 zk_b16 ?_
  obtain ⟨zr1, hzr1, h⟩ := zb h
  refine zcS (pc := 9) (As := [.int x1, .int 2, .int 16]) (rest := []) (st1 := [.int zr1]) (ws' := wM cy mq m_hosts m_lost m_late m_wait m_per m_blocks m_sends m_many m_made m_madeMany m_lacking 0 m_now m_ahead m_then m_time m_timeThen m_isThere m_comes) (wr := [((mq 0), .inr (8, [.int m_hosts, .ref (mq 1), .ref (mq 2), .ref (mq 3), .ref (mq 4), .ref (mq 5), .ref (mq 6), .int m_many, .ref (mq 7), .int m_madeMany, .int m_lacking, .int 0, .ref (mq 8), .ref (mq 9), .ref (mq 10), .ref (mq 11), .ref (mq 12), .ref (mq 13), .ref (mq 14)])), ((mq 1), .inl (cy 2, 16, .inl m_lost)), ((mq 2), .inl (cy 0, 16, .inl m_late)), ((mq 3), .inl (cy 0, 256, .inl m_wait)), ((mq 4), .inl (cy 0, 256, .inl m_per)), ((mq 5), .inl (cy 0, 256, .inl m_blocks)), ((mq 6), .inl (cy 0, 7200, .inl m_sends)), ((mq 7), .inl (cy 0, 7200, .inl m_made)), ((mq 8), .inl (cy 3, 65536, .inl m_now)), ((mq 9), .inl (cy 3, 65536, .inl m_ahead)), ((mq 10), .inl (cy 0, 256, .inl m_then)), ((mq 11), .inl (cy 0, 16, .inl m_time)), ((mq 12), .inl (cy 0, 16, .inl m_timeThen)), ((mq 13), .inl (cy 2, 256, .inl m_isThere)), ((mq 14), .inl (cy 2, 256, .inl m_comes))]) (n := 3) X (c_X9_in l G cy fu x1 2 16 zr1 hzr1) hH [] [0, 1, 2, 3, 4, 5, 6, 7, 8, 9, 10, 11, 12, 13, 14] [0, 1, 2, 3, 4, 5, 6, 7, 8, 9, 10, 11, 12, 13, 14] rfl rfl rfl rfl gX9_hosts_X9_in rfl ⟨rfl, rfl⟩ kX9_in ⟨Nat.le_of_ble_eq_true rfl, Nat.le_of_ble_eq_true rfl⟩ rfl rfl rfl hl.1 (Nat.le_of_ble_eq_true rfl) ⟨Nat.le_of_ble_eq_true rfl, Nat.le_of_ble_eq_true rfl⟩ dX9_hosts_9 (fun H locs hH => ?_)
  refine lv_if_ne (pc := 12) (tgt := 17) hx hb dX9_hosts_12 rfl (fun zc2 => ?_) (fun zc2 => ?_)
  · have h := zf zc2 h
    refine lv_aload_n (pc := 17) hx hb dX9_hosts_17 rfl (lv_at hl 0 rfl) ?_
    refine lv_iload_n (pc := 18) hx hb dX9_hosts_18 rfl (lv_at hl 1 rfl) ?_
    refine z_put (pc := 19) (v := .int x1) (ws' := wM cy mq x1 m_lost m_late m_wait m_per m_blocks m_sends m_many m_made m_madeMany m_lacking 0 m_now m_ahead m_then m_time m_timeThen m_isThere m_comes) X iX9_hosts_X9 tyX9 tyX9_ok nmX9 hH 0 rfl rfl 0 rfl (List.mem_of_getElem? (i := 2) rfl) rfl rfl rfl rfl rfl dX9_hosts_19 (fun H locs hH => ?_)
    refine lv_iconst (v := 0) (pc := 22) hx hb dX9_hosts_22 zk_c0 ?_
    refine lv_istore_n (pc := 23) (lv' := [(2, .int 0), (0, .ref (mq 0)), (1, .int x1)]) hx hb dX9_hosts_23 rfl hl (by decide) rfl (fun ls hl => ?_)
    obtain ⟨zr3, hzr3, h⟩ := zb h
    refine w_X9_hosts_l24 G cy fu mq x1 m_wait m_per m_blocks m_sends m_many m_made m_madeMany m_lacking 0 m_now m_ahead m_then m_time m_timeThen m_isThere m_comes X fu 0 m_lost m_late zr3 hzr3 _ _ _ hH (lv_sub hl [1, 0] rfl) (fun H locs ls hH hl => ?_)
    refine lv_iconst (v := 0) (pc := 50) hx hb dX9_hosts_50 zk_c0 ?_
    refine lv_istore_n (pc := 51) (lv' := [(2, .int 0), (0, .ref (mq 0))]) hx hb dX9_hosts_51 rfl hl (by decide) rfl (fun ls hl => ?_)
    obtain ⟨zr4, hzr4, h⟩ := zb h
    refine w_X9_hosts_l52 G cy fu mq x1 zr3.1 zr3.2 m_wait m_per m_sends m_many m_made m_madeMany m_lacking 0 m_now m_ahead m_then m_time m_timeThen m_isThere m_comes X fu 0 m_blocks zr4 hzr4 _ _ _ hH (lv_sub hl [1, 0] rfl) (fun H locs ls hH hl => ?_)
    refine lv_aload_n (pc := 72) hx hb dX9_hosts_72 rfl (lv_at hl 0 rfl) ?_
    obtain ⟨zr5, hzr5, h⟩ := zb h
    refine zcV (pc := 73) (As := []) (rest := []) (st1 := []) (ws' := wM cy mq x1 zr3.1 zr3.2 zr5 m_per zr4 m_sends m_many m_made m_madeMany m_lacking 0 m_now m_ahead m_then m_time m_timeThen m_isThere m_comes) (wr := []) (n := 0) (q0 := 0) X (c_X9_unlink l G cy fu mq x1 zr3.1 zr3.2 m_wait m_per zr4 m_sends m_many m_made m_madeMany m_lacking 0 m_now m_ahead m_then m_time m_timeThen m_isThere m_comes zr5 hzr5) hH [0, 1, 2, 3, 4, 5, 6, 7, 8, 9, 10, 11, 12, 13, 14] [] [0, 1, 2, 3, 4, 5, 6, 7, 8, 9, 10, 11, 12, 13, 14] rfl rfl rfl rfl gX9_hosts_X9_unlink rfl ⟨rfl, rfl⟩ kX9_unlink ⟨Nat.le_of_ble_eq_true rfl, Nat.le_of_ble_eq_true rfl⟩ rfl rfl rfl rfl rfl hl.1 (Nat.le_of_ble_eq_true rfl) ⟨Nat.le_of_ble_eq_true rfl, Nat.le_of_ble_eq_true rfl⟩ dX9_hosts_73 (fun H locs hH => ?_)
    refine lv_aload_n (pc := 76) hx hb dX9_hosts_76 rfl (lv_at hl 0 rfl) ?_
    refine lv_iconst (v := 0) (pc := 77) hx hb dX9_hosts_77 zk_c0 ?_
    refine z_put (pc := 78) (v := .int 0) (ws' := wM cy mq x1 zr3.1 zr3.2 zr5 m_per zr4 m_sends 0 m_made m_madeMany m_lacking 0 m_now m_ahead m_then m_time m_timeThen m_isThere m_comes) X iX9_hosts_X9 tyX9 tyX9_ok nmX9 hH 0 rfl rfl 7 rfl (List.mem_of_getElem? (i := 6) rfl) rfl rfl rfl rfl rfl dX9_hosts_78 (fun H locs hH => ?_)
    refine lv_iconst (v := 1) (pc := 81) hx hb dX9_hosts_81 zk_c1 ?_
    obtain rfl := Option.some.inj h
    exact z_zret X hr (Or.inr rfl) hH dX9_hosts_82
  have h := zt zc2 h
  refine lv_iconst (v := 0) (pc := 15) hx hb dX9_hosts_15 zk_c0 ?_
  obtain rfl := Option.some.inj h
  exact z_zret X hr (Or.inl rfl) hH dX9_hosts_16
set_option maxHeartbeats 4000000 in
set_option maxRecDepth 100000 in
theorem c_X9_tie (l : Launch) (G : va_G) (cy : Nat → ClassId) (fu : Nat) (mq : Nat → Nat) (m_hosts : Int32) (m_lost : Nat → Int32) (m_late : Nat → Int32) (m_wait : Nat → Int32) (m_per : Nat → Int32) (m_blocks : Nat → Int32) (m_sends : Nat → Int32) (m_many : Int32) (m_made : Nat → Int32) (m_madeMany : Int32) (m_lacking : Int32) (m_thrown : Int32) (m_now : Nat → Int32) (m_ahead : Nat → Int32) (m_then : Nat → Int32) (m_time : Nat → Int32) (m_timeThen : Nat → Int32) (m_isThere : Nat → Int32) (m_comes : Nat → Int32) (x1 : Int32) (x2 : Int32) (x3 : Int32) (x4 : Int32) (rr : (Nat → Int32) × (Nat → Int32)) (h : f_X9_tie fu m_wait m_per x1 x2 x3 x4 = some rr) : zM l G cy yX9_tie wsX9_tie (zR 0 0) [.ref (mq 0), .int x1, .int x2, .int x3, .int x4] (wM cy mq m_hosts m_lost m_late m_wait m_per m_blocks m_sends m_many m_made m_madeMany m_lacking m_thrown m_now m_ahead m_then m_time m_timeThen m_isThere m_comes) (wM cy mq m_hosts m_lost m_late rr.1 rr.2 m_blocks m_sends m_many m_made m_madeMany m_lacking m_thrown m_now m_ahead m_then m_time m_timeThen m_isThere m_comes) none := by
  refine zM.mk (cc := cX9_tie) (nL := 5) (ret := none) (by decide) rfl (Nat.le_of_ble_eq_true rfl) ?_
  intro p e s m below meth c A ls X hr hH hl
  replace X : zX p s m [.ref (mq 0), .int x1, .int x2, .int x3, .int x4].toArray meth c RX9 cX9_tie 5 wsX9_tie G cy A := X
  have hx := X.1.1
  have hb := X.1.2.1
  replace hl : lv_has ls 5 [(0, .ref (mq 0)), (1, .int x1), (2, .int x2), (3, .int x3), (4, .int x4)] := hl
  dsimp only [f_X9_tie] at h
  refine lv_aload_n (pc := 0) hx hb dX9_tie_0 rfl (lv_at hl 0 rfl) ?_
  refine z_get (pc := 1) (v := .ref (mq 3)) X iX9_tie_X9 hH 0 rfl rfl 3 rfl (List.mem_of_getElem? (i := 1) rfl) rfl dX9_tie_1 ?_
  refine lv_bipush (v := 16) (pc := 4) hx hb dX9_tie_4 zk_b16 ?_
  refine lv_iload_n (pc := 6) hx hb dX9_tie_6 rfl (lv_at hl 1 rfl) ?_
  refine lv_imul (pc := 7) hx hb dX9_tie_7 ?_
  refine lv_iload_n (pc := 8) hx hb dX9_tie_8 rfl (lv_at hl 2 rfl) ?_
  refine lv_iadd (pc := 9) hx hb dX9_tie_9 ?_
  refine lv_iload_n (pc := 10) hx hb dX9_tie_10 rfl (lv_at hl 3 rfl) ?_
  obtain ⟨hin, h⟩ := zg h
  refine z_iast (pc := 11) (ws' := wM cy mq m_hosts m_lost m_late (upd m_wait (((16 * x1) + x2)).toNatClampNeg x3) m_per m_blocks m_sends m_many m_made m_madeMany m_lacking m_thrown m_now m_ahead m_then m_time m_timeThen m_isThere m_comes) X hH 3 rfl hin rfl dX9_tie_11 (fun H locs hH => ?_)
  refine lv_aload_n (pc := 12) hx hb dX9_tie_12 rfl (lv_at hl 0 rfl) ?_
  refine z_get (pc := 13) (v := .ref (mq 3)) X iX9_tie_X9 hH 0 rfl rfl 3 rfl (List.mem_of_getElem? (i := 1) rfl) rfl dX9_tie_13 ?_
  refine lv_bipush (v := 16) (pc := 16) hx hb dX9_tie_16 zk_b16 ?_
  refine lv_iload_n (pc := 18) hx hb dX9_tie_18 rfl (lv_at hl 2 rfl) ?_
  refine lv_imul (pc := 19) hx hb dX9_tie_19 ?_
  refine lv_iload_n (pc := 20) hx hb dX9_tie_20 rfl (lv_at hl 1 rfl) ?_
  refine lv_iadd (pc := 21) hx hb dX9_tie_21 ?_
  refine lv_iload_n (pc := 22) hx hb dX9_tie_22 rfl (lv_at hl 3 rfl) ?_
  obtain ⟨hin, h⟩ := zg h
  refine z_iast (pc := 23) (ws' := wM cy mq m_hosts m_lost m_late (upd (upd m_wait (((16 * x1) + x2)).toNatClampNeg x3) (((16 * x2) + x1)).toNatClampNeg x3) m_per m_blocks m_sends m_many m_made m_madeMany m_lacking m_thrown m_now m_ahead m_then m_time m_timeThen m_isThere m_comes) X hH 3 rfl hin rfl dX9_tie_23 (fun H locs hH => ?_)
  refine lv_aload_n (pc := 24) hx hb dX9_tie_24 rfl (lv_at hl 0 rfl) ?_
  refine z_get (pc := 25) (v := .ref (mq 4)) X iX9_tie_X9 hH 0 rfl rfl 4 rfl (List.mem_of_getElem? (i := 2) rfl) rfl dX9_tie_25 ?_
  refine lv_bipush (v := 16) (pc := 28) hx hb dX9_tie_28 zk_b16 ?_
  refine lv_iload_n (pc := 30) hx hb dX9_tie_30 rfl (lv_at hl 1 rfl) ?_
  refine lv_imul (pc := 31) hx hb dX9_tie_31 ?_
  refine lv_iload_n (pc := 32) hx hb dX9_tie_32 rfl (lv_at hl 2 rfl) ?_
  refine lv_iadd (pc := 33) hx hb dX9_tie_33 ?_
  refine lv_iload (pc := 34) hx hb dX9_tie_34 (lv_at hl 4 rfl) ?_
  obtain ⟨hin, h⟩ := zg h
  refine z_iast (pc := 36) (ws' := wM cy mq m_hosts m_lost m_late (upd (upd m_wait (((16 * x1) + x2)).toNatClampNeg x3) (((16 * x2) + x1)).toNatClampNeg x3) (upd m_per (((16 * x1) + x2)).toNatClampNeg x4) m_blocks m_sends m_many m_made m_madeMany m_lacking m_thrown m_now m_ahead m_then m_time m_timeThen m_isThere m_comes) X hH 4 rfl hin rfl dX9_tie_36 (fun H locs hH => ?_)
  refine lv_aload_n (pc := 37) hx hb dX9_tie_37 rfl (lv_at hl 0 rfl) ?_
  refine z_get (pc := 38) (v := .ref (mq 4)) X iX9_tie_X9 hH 0 rfl rfl 4 rfl (List.mem_of_getElem? (i := 2) rfl) rfl dX9_tie_38 ?_
  refine lv_bipush (v := 16) (pc := 41) hx hb dX9_tie_41 zk_b16 ?_
  refine lv_iload_n (pc := 43) hx hb dX9_tie_43 rfl (lv_at hl 2 rfl) ?_
  refine lv_imul (pc := 44) hx hb dX9_tie_44 ?_
  refine lv_iload_n (pc := 45) hx hb dX9_tie_45 rfl (lv_at hl 1 rfl) ?_
  refine lv_iadd (pc := 46) hx hb dX9_tie_46 ?_
  refine lv_iload (pc := 47) hx hb dX9_tie_47 (lv_at hl 4 rfl) ?_
  obtain ⟨hin, h⟩ := zg h
  refine z_iast (pc := 49) (ws' := wM cy mq m_hosts m_lost m_late (upd (upd m_wait (((16 * x1) + x2)).toNatClampNeg x3) (((16 * x2) + x1)).toNatClampNeg x3) (upd (upd m_per (((16 * x1) + x2)).toNatClampNeg x4) (((16 * x2) + x1)).toNatClampNeg x4) m_blocks m_sends m_many m_made m_madeMany m_lacking m_thrown m_now m_ahead m_then m_time m_timeThen m_isThere m_comes) X hH 4 rfl hin rfl dX9_tie_49 (fun H locs hH => ?_)
  obtain rfl := Option.some.inj h
  exact z_vret X hr hH dX9_tie_50
set_option maxHeartbeats 4000000 in
set_option maxRecDepth 100000 in
theorem c_X9_line (l : Launch) (G : va_G) (cy : Nat → ClassId) (fu : Nat) (mq : Nat → Nat) (m_hosts : Int32) (m_lost : Nat → Int32) (m_late : Nat → Int32) (m_wait : Nat → Int32) (m_per : Nat → Int32) (m_blocks : Nat → Int32) (m_sends : Nat → Int32) (m_many : Int32) (m_made : Nat → Int32) (m_madeMany : Int32) (m_lacking : Int32) (m_thrown : Int32) (m_now : Nat → Int32) (m_ahead : Nat → Int32) (m_then : Nat → Int32) (m_time : Nat → Int32) (m_timeThen : Nat → Int32) (m_isThere : Nat → Int32) (m_comes : Nat → Int32) (x1 : Int32) (x2 : Int32) (x3 : Int32) (x4 : Int32) (rr : Int32 × (Nat → Int32) × (Nat → Int32) × Int32 × Int32) (h : f_X9_line fu m_hosts m_wait m_per m_many x1 x2 x3 x4 = some rr) : zM l G cy yX9_line wsX9_line (zR 2 43) [.ref (mq 0), .int x1, .int x2, .int x3, .int x4] (wM cy mq m_hosts m_lost m_late m_wait m_per m_blocks m_sends m_many m_made m_madeMany m_lacking m_thrown m_now m_ahead m_then m_time m_timeThen m_isThere m_comes) (wM cy mq m_hosts m_lost m_late rr.2.1 rr.2.2.1 m_blocks m_sends rr.2.2.2.1 m_made m_madeMany m_lacking rr.2.2.2.2 m_now m_ahead m_then m_time m_timeThen m_isThere m_comes) (some (.int rr.1)) := by
  refine zM.mk (cc := cX9_line) (nL := 5) (ret := (some .boolean)) (by decide) rfl (Nat.le_of_ble_eq_true rfl) ?_
  intro p e s m below meth c A ls X hr hH hl
  replace X : zX p s m [.ref (mq 0), .int x1, .int x2, .int x3, .int x4].toArray meth c RX9 cX9_line 5 wsX9_line G cy A := X
  have hx := X.1.1
  have hb := X.1.2.1
  replace hl : lv_has ls 5 [(0, .ref (mq 0)), (1, .int x1), (2, .int x2), (3, .int x3), (4, .int x4)] := hl
  dsimp only [f_X9_line] at h
  refine lv_aload_n (pc := 0) hx hb dX9_line_0 rfl (lv_at hl 0 rfl) ?_
  refine lv_iconst (v := 0) (pc := 1) hx hb dX9_line_1 zk_c0 ?_
  refine z_put (pc := 2) (v := .int 0) (ws' := wM cy mq m_hosts m_lost m_late m_wait m_per m_blocks m_sends m_many m_made m_madeMany m_lacking 0 m_now m_ahead m_then m_time m_timeThen m_isThere m_comes) X iX9_line_X9 tyX9 tyX9_ok nmX9 hH 0 rfl rfl 11 rfl (List.mem_of_getElem? (i := 1) rfl) rfl rfl rfl rfl rfl dX9_line_2 (fun H locs hH => ?_)
  refine lv_aload_n (pc := 5) hx hb dX9_line_5 rfl (lv_at hl 0 rfl) ?_
  refine lv_iload_n (pc := 6) hx hb dX9_line_6 rfl (lv_at hl 1 rfl) ?_
  obtain ⟨zr1, hzr1, h⟩ := zb h
  refine zcV (pc := 7) (As := [.int x1]) (rest := []) (st1 := [.int zr1]) (ws' := wM cy mq m_hosts m_lost m_late m_wait m_per m_blocks m_sends m_many m_made m_madeMany m_lacking 0 m_now m_ahead m_then m_time m_timeThen m_isThere m_comes) (wr := []) (n := 1) (q0 := 0) X (c_X9_isHost l G cy fu mq m_hosts m_lost m_late m_wait m_per m_blocks m_sends m_many m_made m_madeMany m_lacking 0 m_now m_ahead m_then m_time m_timeThen m_isThere m_comes x1 zr1 hzr1) hH [0, 1, 2, 3, 4, 5, 6, 7, 8, 9, 10, 11, 12, 13, 14] [] [0, 1, 2, 3, 4, 5, 6, 7, 8, 9, 10, 11, 12, 13, 14] rfl rfl rfl rfl gX9_line_X9_isHost rfl ⟨rfl, rfl⟩ kX9_isHost ⟨Nat.le_of_ble_eq_true rfl, Nat.le_of_ble_eq_true rfl⟩ rfl rfl rfl rfl rfl hl.1 (Nat.le_of_ble_eq_true rfl) ⟨Nat.le_of_ble_eq_true rfl, Nat.le_of_ble_eq_true rfl⟩ dX9_line_7 (fun H locs hH => ?_)
  refine lv_if_eq (pc := 10) (tgt := 54) hx hb dX9_line_10 rfl (fun zc2 => ?_) (fun zc2 => ?_)
  · have h := zt zc2 h
    refine lv_iconst (v := 0) (pc := 54) hx hb dX9_line_54 zk_c0 ?_
    obtain rfl := Option.some.inj h
    exact z_zret X hr (Or.inl rfl) hH dX9_line_55
  have h := zf zc2 h
  refine lv_aload_n (pc := 13) hx hb dX9_line_13 rfl (lv_at hl 0 rfl) ?_
  refine lv_iload_n (pc := 14) hx hb dX9_line_14 rfl (lv_at hl 2 rfl) ?_
  obtain ⟨zr3, hzr3, h⟩ := zb h
  refine zcV (pc := 15) (As := [.int x2]) (rest := []) (st1 := [.int zr3]) (ws' := wM cy mq m_hosts m_lost m_late m_wait m_per m_blocks m_sends m_many m_made m_madeMany m_lacking 0 m_now m_ahead m_then m_time m_timeThen m_isThere m_comes) (wr := []) (n := 1) (q0 := 0) X (c_X9_isHost l G cy fu mq m_hosts m_lost m_late m_wait m_per m_blocks m_sends m_many m_made m_madeMany m_lacking 0 m_now m_ahead m_then m_time m_timeThen m_isThere m_comes x2 zr3 hzr3) hH [0, 1, 2, 3, 4, 5, 6, 7, 8, 9, 10, 11, 12, 13, 14] [] [0, 1, 2, 3, 4, 5, 6, 7, 8, 9, 10, 11, 12, 13, 14] rfl rfl rfl rfl gX9_line_X9_isHost rfl ⟨rfl, rfl⟩ kX9_isHost ⟨Nat.le_of_ble_eq_true rfl, Nat.le_of_ble_eq_true rfl⟩ rfl rfl rfl rfl rfl hl.1 (Nat.le_of_ble_eq_true rfl) ⟨Nat.le_of_ble_eq_true rfl, Nat.le_of_ble_eq_true rfl⟩ dX9_line_15 (fun H locs hH => ?_)
  refine lv_if_eq (pc := 18) (tgt := 54) hx hb dX9_line_18 rfl (fun zc4 => ?_) (fun zc4 => ?_)
  · have h := zt zc4 h
    refine lv_iconst (v := 0) (pc := 54) hx hb dX9_line_54 zk_c0 ?_
    obtain rfl := Option.some.inj h
    exact z_zret X hr (Or.inl rfl) hH dX9_line_55
  have h := zf zc4 h
  refine lv_iload_n (pc := 21) hx hb dX9_line_21 rfl (lv_at hl 1 rfl) ?_
  refine lv_iload_n (pc := 22) hx hb dX9_line_22 rfl (lv_at hl 2 rfl) ?_
  refine lv_icmp_eq (pc := 23) (tgt := 54) hx hb dX9_line_23 rfl (fun zc5 => ?_) (fun zc5 => ?_)
  · have h := zt zc5 h
    refine lv_iconst (v := 0) (pc := 54) hx hb dX9_line_54 zk_c0 ?_
    obtain rfl := Option.some.inj h
    exact z_zret X hr (Or.inl rfl) hH dX9_line_55
  have h := zf zc5 h
  refine lv_iload_n (pc := 26) hx hb dX9_line_26 rfl (lv_at hl 3 rfl) ?_
  refine lv_iconst (v := (-1)) (pc := 27) hx hb dX9_line_27 zk_cm1 ?_
  refine lv_sipush (v := 1000) (pc := 28) hx hb dX9_line_28 zk_s1000 ?_
  obtain ⟨zr6, hzr6, h⟩ := zb h
  refine zcS (pc := 31) (As := [.int x3, .int (-1), .int 1000]) (rest := []) (st1 := [.int zr6]) (ws' := wM cy mq m_hosts m_lost m_late m_wait m_per m_blocks m_sends m_many m_made m_madeMany m_lacking 0 m_now m_ahead m_then m_time m_timeThen m_isThere m_comes) (wr := [((mq 0), .inr (8, [.int m_hosts, .ref (mq 1), .ref (mq 2), .ref (mq 3), .ref (mq 4), .ref (mq 5), .ref (mq 6), .int m_many, .ref (mq 7), .int m_madeMany, .int m_lacking, .int 0, .ref (mq 8), .ref (mq 9), .ref (mq 10), .ref (mq 11), .ref (mq 12), .ref (mq 13), .ref (mq 14)])), ((mq 1), .inl (cy 2, 16, .inl m_lost)), ((mq 2), .inl (cy 0, 16, .inl m_late)), ((mq 3), .inl (cy 0, 256, .inl m_wait)), ((mq 4), .inl (cy 0, 256, .inl m_per)), ((mq 5), .inl (cy 0, 256, .inl m_blocks)), ((mq 6), .inl (cy 0, 7200, .inl m_sends)), ((mq 7), .inl (cy 0, 7200, .inl m_made)), ((mq 8), .inl (cy 3, 65536, .inl m_now)), ((mq 9), .inl (cy 3, 65536, .inl m_ahead)), ((mq 10), .inl (cy 0, 256, .inl m_then)), ((mq 11), .inl (cy 0, 16, .inl m_time)), ((mq 12), .inl (cy 0, 16, .inl m_timeThen)), ((mq 13), .inl (cy 2, 256, .inl m_isThere)), ((mq 14), .inl (cy 2, 256, .inl m_comes))]) (n := 3) X (c_X9_in l G cy fu x3 (-1) 1000 zr6 hzr6) hH [] [0, 1, 2, 3, 4, 5, 6, 7, 8, 9, 10, 11, 12, 13, 14] [0, 1, 2, 3, 4, 5, 6, 7, 8, 9, 10, 11, 12, 13, 14] rfl rfl rfl rfl gX9_line_X9_in rfl ⟨rfl, rfl⟩ kX9_in ⟨Nat.le_of_ble_eq_true rfl, Nat.le_of_ble_eq_true rfl⟩ rfl rfl rfl hl.1 (Nat.le_of_ble_eq_true rfl) ⟨Nat.le_of_ble_eq_true rfl, Nat.le_of_ble_eq_true rfl⟩ dX9_line_31 (fun H locs hH => ?_)
  refine lv_if_eq (pc := 34) (tgt := 54) hx hb dX9_line_34 rfl (fun zc7 => ?_) (fun zc7 => ?_)
  · have h := zt zc7 h
    refine lv_iconst (v := 0) (pc := 54) hx hb dX9_line_54 zk_c0 ?_
    obtain rfl := Option.some.inj h
    exact z_zret X hr (Or.inl rfl) hH dX9_line_55
  have h := zf zc7 h
  refine lv_iload_n (pc := 37) hx hb dX9_line_37 rfl (lv_at hl 3 rfl) ?_
  refine lv_iconst (v := (-1)) (pc := 38) hx hb dX9_line_38 zk_cm1 ?_
  refine lv_icmp_eq (pc := 39) (tgt := 56) hx hb dX9_line_39 rfl (fun zc8 => ?_) (fun zc8 => ?_)
  · have h := zt zc8 h
    refine lv_aload_n (pc := 56) hx hb dX9_line_56 rfl (lv_at hl 0 rfl) ?_
    refine lv_iload_n (pc := 57) hx hb dX9_line_57 rfl (lv_at hl 1 rfl) ?_
    refine lv_iload_n (pc := 58) hx hb dX9_line_58 rfl (lv_at hl 2 rfl) ?_
    refine lv_iload_n (pc := 59) hx hb dX9_line_59 rfl (lv_at hl 3 rfl) ?_
    refine lv_iload (pc := 60) hx hb dX9_line_60 (lv_at hl 4 rfl) ?_
    obtain ⟨zr9, hzr9, h⟩ := zb h
    refine zcV (pc := 62) (As := [.int x1, .int x2, .int x3, .int x4]) (rest := []) (st1 := []) (ws' := wM cy mq m_hosts m_lost m_late zr9.1 zr9.2 m_blocks m_sends m_many m_made m_madeMany m_lacking 0 m_now m_ahead m_then m_time m_timeThen m_isThere m_comes) (wr := []) (n := 4) (q0 := 0) X (c_X9_tie l G cy fu mq m_hosts m_lost m_late m_wait m_per m_blocks m_sends m_many m_made m_madeMany m_lacking 0 m_now m_ahead m_then m_time m_timeThen m_isThere m_comes x1 x2 x3 x4 zr9 hzr9) hH [0, 1, 2, 3, 4, 5, 6, 7, 8, 9, 10, 11, 12, 13, 14] [] [0, 1, 2, 3, 4, 5, 6, 7, 8, 9, 10, 11, 12, 13, 14] rfl rfl rfl rfl gX9_line_X9_tie rfl ⟨rfl, rfl⟩ kX9_tie ⟨Nat.le_of_ble_eq_true rfl, Nat.le_of_ble_eq_true rfl⟩ rfl rfl rfl rfl rfl hl.1 (Nat.le_of_ble_eq_true rfl) ⟨Nat.le_of_ble_eq_true rfl, Nat.le_of_ble_eq_true rfl⟩ dX9_line_62 (fun H locs hH => ?_)
    refine lv_aload_n (pc := 65) hx hb dX9_line_65 rfl (lv_at hl 0 rfl) ?_
    refine lv_iconst (v := 0) (pc := 66) hx hb dX9_line_66 zk_c0 ?_
    refine z_put (pc := 67) (v := .int 0) (ws' := wM cy mq m_hosts m_lost m_late zr9.1 zr9.2 m_blocks m_sends 0 m_made m_madeMany m_lacking 0 m_now m_ahead m_then m_time m_timeThen m_isThere m_comes) X iX9_line_X9 tyX9 tyX9_ok nmX9 hH 0 rfl rfl 7 rfl (List.mem_of_getElem? (i := 2) rfl) rfl rfl rfl rfl rfl dX9_line_67 (fun H locs hH => ?_)
    refine lv_iconst (v := 1) (pc := 70) hx hb dX9_line_70 zk_c1 ?_
    obtain rfl := Option.some.inj h
    exact z_zret X hr (Or.inr rfl) hH dX9_line_71
  have h := zf zc8 h
  refine lv_iload (pc := 42) hx hb dX9_line_42 (lv_at hl 4 rfl) ?_
  refine lv_iconst (v := 1) (pc := 44) hx hb dX9_line_44 zk_c1 ?_
  refine lv_sipush (v := 1000) (pc := 45) hx hb dX9_line_45 zk_s1000 ?_
  obtain ⟨zr10, hzr10, h⟩ := zb h
  refine zcS (pc := 48) (As := [.int x4, .int 1, .int 1000]) (rest := []) (st1 := [.int zr10]) (ws' := wM cy mq m_hosts m_lost m_late m_wait m_per m_blocks m_sends m_many m_made m_madeMany m_lacking 0 m_now m_ahead m_then m_time m_timeThen m_isThere m_comes) (wr := [((mq 0), .inr (8, [.int m_hosts, .ref (mq 1), .ref (mq 2), .ref (mq 3), .ref (mq 4), .ref (mq 5), .ref (mq 6), .int m_many, .ref (mq 7), .int m_madeMany, .int m_lacking, .int 0, .ref (mq 8), .ref (mq 9), .ref (mq 10), .ref (mq 11), .ref (mq 12), .ref (mq 13), .ref (mq 14)])), ((mq 1), .inl (cy 2, 16, .inl m_lost)), ((mq 2), .inl (cy 0, 16, .inl m_late)), ((mq 3), .inl (cy 0, 256, .inl m_wait)), ((mq 4), .inl (cy 0, 256, .inl m_per)), ((mq 5), .inl (cy 0, 256, .inl m_blocks)), ((mq 6), .inl (cy 0, 7200, .inl m_sends)), ((mq 7), .inl (cy 0, 7200, .inl m_made)), ((mq 8), .inl (cy 3, 65536, .inl m_now)), ((mq 9), .inl (cy 3, 65536, .inl m_ahead)), ((mq 10), .inl (cy 0, 256, .inl m_then)), ((mq 11), .inl (cy 0, 16, .inl m_time)), ((mq 12), .inl (cy 0, 16, .inl m_timeThen)), ((mq 13), .inl (cy 2, 256, .inl m_isThere)), ((mq 14), .inl (cy 2, 256, .inl m_comes))]) (n := 3) X (c_X9_in l G cy fu x4 1 1000 zr10 hzr10) hH [] [0, 1, 2, 3, 4, 5, 6, 7, 8, 9, 10, 11, 12, 13, 14] [0, 1, 2, 3, 4, 5, 6, 7, 8, 9, 10, 11, 12, 13, 14] rfl rfl rfl rfl gX9_line_X9_in rfl ⟨rfl, rfl⟩ kX9_in ⟨Nat.le_of_ble_eq_true rfl, Nat.le_of_ble_eq_true rfl⟩ rfl rfl rfl hl.1 (Nat.le_of_ble_eq_true rfl) ⟨Nat.le_of_ble_eq_true rfl, Nat.le_of_ble_eq_true rfl⟩ dX9_line_48 (fun H locs hH => ?_)
  refine lv_if_ne (pc := 51) (tgt := 56) hx hb dX9_line_51 rfl (fun zc11 => ?_) (fun zc11 => ?_)
  · have h := zf zc11 h
    refine lv_aload_n (pc := 56) hx hb dX9_line_56 rfl (lv_at hl 0 rfl) ?_
    refine lv_iload_n (pc := 57) hx hb dX9_line_57 rfl (lv_at hl 1 rfl) ?_
    refine lv_iload_n (pc := 58) hx hb dX9_line_58 rfl (lv_at hl 2 rfl) ?_
    refine lv_iload_n (pc := 59) hx hb dX9_line_59 rfl (lv_at hl 3 rfl) ?_
    refine lv_iload (pc := 60) hx hb dX9_line_60 (lv_at hl 4 rfl) ?_
    obtain ⟨zr12, hzr12, h⟩ := zb h
    refine zcV (pc := 62) (As := [.int x1, .int x2, .int x3, .int x4]) (rest := []) (st1 := []) (ws' := wM cy mq m_hosts m_lost m_late zr12.1 zr12.2 m_blocks m_sends m_many m_made m_madeMany m_lacking 0 m_now m_ahead m_then m_time m_timeThen m_isThere m_comes) (wr := []) (n := 4) (q0 := 0) X (c_X9_tie l G cy fu mq m_hosts m_lost m_late m_wait m_per m_blocks m_sends m_many m_made m_madeMany m_lacking 0 m_now m_ahead m_then m_time m_timeThen m_isThere m_comes x1 x2 x3 x4 zr12 hzr12) hH [0, 1, 2, 3, 4, 5, 6, 7, 8, 9, 10, 11, 12, 13, 14] [] [0, 1, 2, 3, 4, 5, 6, 7, 8, 9, 10, 11, 12, 13, 14] rfl rfl rfl rfl gX9_line_X9_tie rfl ⟨rfl, rfl⟩ kX9_tie ⟨Nat.le_of_ble_eq_true rfl, Nat.le_of_ble_eq_true rfl⟩ rfl rfl rfl rfl rfl hl.1 (Nat.le_of_ble_eq_true rfl) ⟨Nat.le_of_ble_eq_true rfl, Nat.le_of_ble_eq_true rfl⟩ dX9_line_62 (fun H locs hH => ?_)
    refine lv_aload_n (pc := 65) hx hb dX9_line_65 rfl (lv_at hl 0 rfl) ?_
    refine lv_iconst (v := 0) (pc := 66) hx hb dX9_line_66 zk_c0 ?_
    refine z_put (pc := 67) (v := .int 0) (ws' := wM cy mq m_hosts m_lost m_late zr12.1 zr12.2 m_blocks m_sends 0 m_made m_madeMany m_lacking 0 m_now m_ahead m_then m_time m_timeThen m_isThere m_comes) X iX9_line_X9 tyX9 tyX9_ok nmX9 hH 0 rfl rfl 7 rfl (List.mem_of_getElem? (i := 2) rfl) rfl rfl rfl rfl rfl dX9_line_67 (fun H locs hH => ?_)
    refine lv_iconst (v := 1) (pc := 70) hx hb dX9_line_70 zk_c1 ?_
    obtain rfl := Option.some.inj h
    exact z_zret X hr (Or.inr rfl) hH dX9_line_71
  have h := zt zc11 h
  refine lv_iconst (v := 0) (pc := 54) hx hb dX9_line_54 zk_c0 ?_
  obtain rfl := Option.some.inj h
  exact z_zret X hr (Or.inl rfl) hH dX9_line_55
set_option maxHeartbeats 4000000 in
set_option maxRecDepth 100000 in
theorem w_X9_lines_l14 {p : Program} {l : Launch} {e : Env} {s : State} {m : MethodId} {args : Array Value} {below : List Frame} {meth : Method} {c : Code} {A : Nat → Prop} {Q : State → Prop} (G : va_G) (cy : Nat → ClassId) (fu : Nat) (mq : Nat → Nat) (m_hosts : Int32) (m_lost : Nat → Int32) (m_late : Nat → Int32) (m_wait : Nat → Int32) (m_per : Nat → Int32) (m_blocks : Nat → Int32) (m_sends : Nat → Int32) (m_many : Int32) (m_made : Nat → Int32) (m_madeMany : Int32) (m_lacking : Int32) (m_thrown : Int32) (m_now : Nat → Int32) (m_ahead : Nat → Int32) (m_then : Nat → Int32) (m_time : Nat → Int32) (m_timeThen : Nat → Int32) (m_isThere : Nat → Int32) (m_comes : Nat → Int32) (x2 : Int32) (X : zX p s m args meth c RX9 cX9_lines 4 wsX9_lines G cy A) : ∀ (n : Nat) (x1 : Int32) (x3 : Int32) (rr : Int32) (h : lp (f_X9_lines_l14 fu m_wait x2) n (x1, x3) = some rr) (H : Heap) (locs : List Loc) (ls : Array Slot) (hH : zH G A s.heap (wM cy mq m_hosts m_lost m_late m_wait m_per m_blocks m_sends m_many m_made m_madeMany m_lacking m_thrown m_now m_ahead m_then m_time m_timeThen m_isThere m_comes) H locs) (hl : lv_has ls 4 [(0, .ref (mq 0)), (1, .int x1), (2, .int x2), (3, .int x3)]) (K0 : ∀ (H : Heap) (locs : List Loc) (ls : Array Slot), zH G A s.heap (wM cy mq m_hosts m_lost m_late m_wait m_per m_blocks m_sends m_many m_made m_madeMany m_lacking m_thrown m_now m_ahead m_then m_time m_timeThen m_isThere m_comes) H locs → lv_has ls 4 [(0, .ref (mq 0)), (1, .int rr), (2, .int x2)] → W p l e (zR 1 22) s m args below meth c H locs 0 0 Q (F0 m 37 ls [])), W p l e (zR 1 22) s m args below meth c H locs 0 0 Q (F0 m 14 ls []) := by
  have hx := X.1.1
  have hb := X.1.2.1
  intro n
  induction n with
  | zero => intro x1 x3 rr h H locs ls hH hl K0; cases h
  | succ n ih =>
    intro x1 x3 rr h H locs ls hH hl K0
    replace h : f_X9_lines_l14 fu m_wait x2 (lp (f_X9_lines_l14 fu m_wait x2) n) (x1, x3) = some rr := h
    dsimp only [f_X9_lines_l14] at h
    refine lv_iload_n (pc := 14) hx hb dX9_lines_14 rfl (lv_at hl 3 rfl) ?_
    refine lv_iload_n (pc := 15) hx hb dX9_lines_15 rfl (lv_at hl 2 rfl) ?_
    refine lv_icmp_ge (pc := 16) (tgt := 37) hx hb dX9_lines_16 rfl (fun zc1 => ?_) (fun zc1 => ?_)
    · have h := zt zc1 h
      obtain rfl := Option.some.inj h
      exact K0 _ _ _ hH (lv_sub hl [0, 1, 2] rfl)
    have h := zf zc1 h
    refine lv_aload_n (pc := 19) hx hb dX9_lines_19 rfl (lv_at hl 0 rfl) ?_
    refine lv_iload_n (pc := 20) hx hb dX9_lines_20 rfl (lv_at hl 2 rfl) ?_
    refine lv_iload_n (pc := 21) hx hb dX9_lines_21 rfl (lv_at hl 3 rfl) ?_
    obtain ⟨zr2, hzr2, h⟩ := zb h
    refine zcV (pc := 22) (As := [.int x2, .int x3]) (rest := []) (st1 := [.int zr2]) (ws' := wM cy mq m_hosts m_lost m_late m_wait m_per m_blocks m_sends m_many m_made m_madeMany m_lacking m_thrown m_now m_ahead m_then m_time m_timeThen m_isThere m_comes) (wr := []) (n := 2) (q0 := 0) X (c_X9_areJoined l G cy fu mq m_hosts m_lost m_late m_wait m_per m_blocks m_sends m_many m_made m_madeMany m_lacking m_thrown m_now m_ahead m_then m_time m_timeThen m_isThere m_comes x2 x3 zr2 hzr2) hH [0, 1, 2, 3, 4, 5, 6, 7, 8, 9, 10, 11, 12, 13, 14] [] [0, 1, 2, 3, 4, 5, 6, 7, 8, 9, 10, 11, 12, 13, 14] rfl rfl rfl rfl gX9_lines_X9_areJoined rfl ⟨rfl, rfl⟩ kX9_areJoined ⟨Nat.le_of_ble_eq_true rfl, Nat.le_of_ble_eq_true rfl⟩ rfl rfl rfl rfl rfl hl.1 (Nat.le_of_ble_eq_true rfl) ⟨Nat.le_of_ble_eq_true rfl, Nat.le_of_ble_eq_true rfl⟩ dX9_lines_22 (fun H locs hH => ?_)
    refine lv_if_eq (pc := 25) (tgt := 31) hx hb dX9_lines_25 rfl (fun zc3 => ?_) (fun zc3 => ?_)
    · have h := zt zc3 h
      refine lv_iinc (pc := 31) (v := (x3 + 1)) (lv' := [(3, .int (x3 + 1)), (0, .ref (mq 0)), (1, .int x1), (2, .int x2)]) hx hb dX9_lines_31 hl (k := 3) rfl (by rw [zk_c1]) (by decide) rfl (fun ls hl => ?_)
      refine lv_goto (pc := 34) (tgt := 14) hx hb dX9_lines_34 rfl ?_
      exact ih x1 (x3 + 1) rr h _ _ _ hH (lv_sub hl [1, 2, 3, 0] rfl) K0
    have h := zf zc3 h
    refine lv_iinc (pc := 28) (v := (x1 + 1)) (lv' := [(1, .int (x1 + 1)), (0, .ref (mq 0)), (2, .int x2), (3, .int x3)]) hx hb dX9_lines_28 hl (k := 1) rfl (by rw [zk_c1]) (by decide) rfl (fun ls hl => ?_)
    refine lv_iinc (pc := 31) (v := (x3 + 1)) (lv' := [(3, .int (x3 + 1)), (1, .int (x1 + 1)), (0, .ref (mq 0)), (2, .int x2)]) hx hb dX9_lines_31 hl (k := 3) rfl (by rw [zk_c1]) (by decide) rfl (fun ls hl => ?_)
    refine lv_goto (pc := 34) (tgt := 14) hx hb dX9_lines_34 rfl ?_
    exact ih (x1 + 1) (x3 + 1) rr h _ _ _ hH (lv_sub hl [2, 1, 3, 0] rfl) K0
set_option maxHeartbeats 4000000 in
set_option maxRecDepth 100000 in
theorem w_X9_lines_l4 {p : Program} {l : Launch} {e : Env} {s : State} {m : MethodId} {args : Array Value} {below : List Frame} {meth : Method} {c : Code} {A : Nat → Prop} {Q : State → Prop} (G : va_G) (cy : Nat → ClassId) (fu : Nat) (mq : Nat → Nat) (m_hosts : Int32) (m_lost : Nat → Int32) (m_late : Nat → Int32) (m_wait : Nat → Int32) (m_per : Nat → Int32) (m_blocks : Nat → Int32) (m_sends : Nat → Int32) (m_many : Int32) (m_made : Nat → Int32) (m_madeMany : Int32) (m_lacking : Int32) (m_thrown : Int32) (m_now : Nat → Int32) (m_ahead : Nat → Int32) (m_then : Nat → Int32) (m_time : Nat → Int32) (m_timeThen : Nat → Int32) (m_isThere : Nat → Int32) (m_comes : Nat → Int32) (X : zX p s m args meth c RX9 cX9_lines 4 wsX9_lines G cy A) : ∀ (n : Nat) (x1 : Int32) (x2 : Int32) (rr : Int32) (h : lp (f_X9_lines_l4 fu m_hosts m_wait) n (x1, x2) = some rr) (H : Heap) (locs : List Loc) (ls : Array Slot) (hH : zH G A s.heap (wM cy mq m_hosts m_lost m_late m_wait m_per m_blocks m_sends m_many m_made m_madeMany m_lacking m_thrown m_now m_ahead m_then m_time m_timeThen m_isThere m_comes) H locs) (hl : lv_has ls 4 [(0, .ref (mq 0)), (1, .int x1), (2, .int x2)]) (K0 : ∀ (H : Heap) (locs : List Loc) (ls : Array Slot), zH G A s.heap (wM cy mq m_hosts m_lost m_late m_wait m_per m_blocks m_sends m_many m_made m_madeMany m_lacking m_thrown m_now m_ahead m_then m_time m_timeThen m_isThere m_comes) H locs → lv_has ls 4 [(1, .int rr)] → W p l e (zR 1 22) s m args below meth c H locs 0 0 Q (F0 m 43 ls [])), W p l e (zR 1 22) s m args below meth c H locs 0 0 Q (F0 m 4 ls []) := by
  have hx := X.1.1
  have hb := X.1.2.1
  intro n
  induction n with
  | zero => intro x1 x2 rr h H locs ls hH hl K0; cases h
  | succ n ih =>
    intro x1 x2 rr h H locs ls hH hl K0
    replace h : f_X9_lines_l4 fu m_hosts m_wait (lp (f_X9_lines_l4 fu m_hosts m_wait) n) (x1, x2) = some rr := h
    dsimp only [f_X9_lines_l4] at h
    refine lv_iload_n (pc := 4) hx hb dX9_lines_4 rfl (lv_at hl 2 rfl) ?_
    refine lv_aload_n (pc := 5) hx hb dX9_lines_5 rfl (lv_at hl 0 rfl) ?_
    refine z_get (pc := 6) (v := .int m_hosts) X iX9_lines_X9 hH 0 rfl rfl 0 rfl (List.mem_of_getElem? (i := 1) rfl) rfl dX9_lines_6 ?_
    refine lv_icmp_ge (pc := 9) (tgt := 43) hx hb dX9_lines_9 rfl (fun zc1 => ?_) (fun zc1 => ?_)
    · have h := zt zc1 h
      obtain rfl := Option.some.inj h
      exact K0 _ _ _ hH (lv_sub hl [1] rfl)
    have h := zf zc1 h
    refine lv_iconst (v := 0) (pc := 12) hx hb dX9_lines_12 zk_c0 ?_
    refine lv_istore_n (pc := 13) (lv' := [(3, .int 0), (0, .ref (mq 0)), (1, .int x1), (2, .int x2)]) hx hb dX9_lines_13 rfl hl (by decide) rfl (fun ls hl => ?_)
    obtain ⟨zr2, hzr2, h⟩ := zb h
    refine w_X9_lines_l14 G cy fu mq m_hosts m_lost m_late m_wait m_per m_blocks m_sends m_many m_made m_madeMany m_lacking m_thrown m_now m_ahead m_then m_time m_timeThen m_isThere m_comes x2 X fu x1 0 zr2 hzr2 _ _ _ hH (lv_sub hl [1, 2, 3, 0] rfl) (fun H locs ls hH hl => ?_)
    refine lv_iinc (pc := 37) (v := (x2 + 1)) (lv' := [(2, .int (x2 + 1)), (0, .ref (mq 0)), (1, .int zr2)]) hx hb dX9_lines_37 hl (k := 2) rfl (by rw [zk_c1]) (by decide) rfl (fun ls hl => ?_)
    refine lv_goto (pc := 40) (tgt := 4) hx hb dX9_lines_40 rfl ?_
    exact ih zr2 (x2 + 1) rr h _ _ _ hH (lv_sub hl [1, 2, 0] rfl) K0
set_option maxHeartbeats 4000000 in
set_option maxRecDepth 100000 in
theorem c_X9_lines (l : Launch) (G : va_G) (cy : Nat → ClassId) (fu : Nat) (mq : Nat → Nat) (m_hosts : Int32) (m_lost : Nat → Int32) (m_late : Nat → Int32) (m_wait : Nat → Int32) (m_per : Nat → Int32) (m_blocks : Nat → Int32) (m_sends : Nat → Int32) (m_many : Int32) (m_made : Nat → Int32) (m_madeMany : Int32) (m_lacking : Int32) (m_thrown : Int32) (m_now : Nat → Int32) (m_ahead : Nat → Int32) (m_then : Nat → Int32) (m_time : Nat → Int32) (m_timeThen : Nat → Int32) (m_isThere : Nat → Int32) (m_comes : Nat → Int32)  (rr : Int32) (h : f_X9_lines fu m_hosts m_wait = some rr) : zM l G cy yX9_lines wsX9_lines (zR 1 22) [.ref (mq 0)] (wM cy mq m_hosts m_lost m_late m_wait m_per m_blocks m_sends m_many m_made m_madeMany m_lacking m_thrown m_now m_ahead m_then m_time m_timeThen m_isThere m_comes) (wM cy mq m_hosts m_lost m_late m_wait m_per m_blocks m_sends m_many m_made m_madeMany m_lacking m_thrown m_now m_ahead m_then m_time m_timeThen m_isThere m_comes) (some (.int rr)) := by
  refine zM.mk (cc := cX9_lines) (nL := 4) (ret := (some .int)) (by decide) rfl (Nat.le_of_ble_eq_true rfl) ?_
  intro p e s m below meth c A ls X hr hH hl
  replace X : zX p s m [.ref (mq 0)].toArray meth c RX9 cX9_lines 4 wsX9_lines G cy A := X
  have hx := X.1.1
  have hb := X.1.2.1
  replace hl : lv_has ls 4 [(0, .ref (mq 0))] := hl
  dsimp only [f_X9_lines] at h
  refine lv_iconst (v := 0) (pc := 0) hx hb dX9_lines_0 zk_c0 ?_
  refine lv_istore_n (pc := 1) (lv' := [(1, .int 0), (0, .ref (mq 0))]) hx hb dX9_lines_1 rfl hl (by decide) rfl (fun ls hl => ?_)
  refine lv_iconst (v := 0) (pc := 2) hx hb dX9_lines_2 zk_c0 ?_
  refine lv_istore_n (pc := 3) (lv' := [(2, .int 0), (1, .int 0), (0, .ref (mq 0))]) hx hb dX9_lines_3 rfl hl (by decide) rfl (fun ls hl => ?_)
  obtain ⟨zr1, hzr1, h⟩ := zb h
  refine w_X9_lines_l4 G cy fu mq m_hosts m_lost m_late m_wait m_per m_blocks m_sends m_many m_made m_madeMany m_lacking m_thrown m_now m_ahead m_then m_time m_timeThen m_isThere m_comes X fu 0 0 zr1 hzr1 _ _ _ hH (lv_sub hl [2, 1, 0] rfl) (fun H locs ls hH hl => ?_)
  refine lv_iload_n (pc := 43) hx hb dX9_lines_43 rfl (lv_at hl 0 rfl) ?_
  obtain rfl := Option.some.inj h
  exact z_iret X hr hH dX9_lines_44
set_option maxHeartbeats 4000000 in
set_option maxRecDepth 100000 in
theorem w_X9_net_l56 {p : Program} {l : Launch} {e : Env} {s : State} {m : MethodId} {args : Array Value} {below : List Frame} {meth : Method} {c : Code} {A : Nat → Prop} {Q : State → Prop} (G : va_G) (cy : Nat → ClassId) (fu : Nat) (mq : Nat → Nat) (m_hosts : Int32) (m_lost : Nat → Int32) (m_late : Nat → Int32) (m_blocks : Nat → Int32) (m_sends : Nat → Int32) (m_many : Int32) (m_made : Nat → Int32) (m_madeMany : Int32) (m_lacking : Int32) (m_thrown : Int32) (m_now : Nat → Int32) (m_ahead : Nat → Int32) (m_then : Nat → Int32) (m_time : Nat → Int32) (m_timeThen : Nat → Int32) (m_isThere : Nat → Int32) (m_comes : Nat → Int32) (x1 : Int32) (x2 : Int32) (x3 : Int32) (x4 : Int32) (X : zX p s m args meth c RX9 cX9_net 8 wsX9_net G cy A) : ∀ (n : Nat) (x5 : Int32) (m_wait : Nat → Int32) (m_per : Nat → Int32) (rr : (Nat → Int32) × (Nat → Int32)) (h : lp (f_X9_net_l56 fu m_hosts x1 x2 x3 x4) n (x5, m_wait, m_per) = some rr) (H : Heap) (locs : List Loc) (ls : Array Slot) (hH : zH G A s.heap (wM cy mq m_hosts m_lost m_late m_wait m_per m_blocks m_sends m_many m_made m_madeMany m_lacking m_thrown m_now m_ahead m_then m_time m_timeThen m_isThere m_comes) H locs) (hl : lv_has ls 8 [(0, .ref (mq 0)), (1, .int x1), (2, .int x2), (3, .int x3), (4, .int x4), (5, .int x5)]) (K0 : ∀ (H : Heap) (locs : List Loc) (ls : Array Slot), zH G A s.heap (wM cy mq m_hosts m_lost m_late rr.1 rr.2 m_blocks m_sends m_many m_made m_madeMany m_lacking m_thrown m_now m_ahead m_then m_time m_timeThen m_isThere m_comes) H locs → lv_has ls 8 [(0, .ref (mq 0)), (1, .int x1), (2, .int x2), (3, .int x3), (4, .int x4)] → W p l e (zR 2 45) s m args below meth c H locs 0 0 Q (F0 m 166 ls [])), W p l e (zR 2 45) s m args below meth c H locs 0 0 Q (F0 m 56 ls []) := by
  have hx := X.1.1
  have hb := X.1.2.1
  intro n
  induction n with
  | zero => intro x5 m_wait m_per rr h H locs ls hH hl K0; cases h
  | succ n ih =>
    intro x5 m_wait m_per rr h H locs ls hH hl K0
    replace h : f_X9_net_l56 fu m_hosts x1 x2 x3 x4 (lp (f_X9_net_l56 fu m_hosts x1 x2 x3 x4) n) (x5, m_wait, m_per) = some rr := h
    dsimp only [f_X9_net_l56] at h
    refine lv_iload (pc := 56) hx hb dX9_net_56 (lv_at hl 5 rfl) ?_
    refine lv_aload_n (pc := 58) hx hb dX9_net_58 rfl (lv_at hl 0 rfl) ?_
    refine z_get (pc := 59) (v := .int m_hosts) X iX9_net_X9 hH 0 rfl rfl 0 rfl (List.mem_of_getElem? (i := 2) rfl) rfl dX9_net_59 ?_
    refine lv_icmp_ge (pc := 62) (tgt := 166) hx hb dX9_net_62 rfl (fun zc1 => ?_) (fun zc1 => ?_)
    · have h := zt zc1 h
      obtain rfl := Option.some.inj h
      exact K0 _ _ _ hH (lv_sub hl [0, 1, 2, 3, 4] rfl)
    have h := zf zc1 h
    refine lv_iload (pc := 65) hx hb dX9_net_65 (lv_at hl 5 rfl) ?_
    refine lv_iload (pc := 67) hx hb dX9_net_67 (lv_at hl 4 rfl) ?_
    refine lv_iconst (v := 1) (pc := 69) hx hb dX9_net_69 zk_c1 ?_
    refine lv_iadd (pc := 70) hx hb dX9_net_70 ?_
    refine lv_icmp_ne (pc := 71) (tgt := 78) hx hb dX9_net_71 rfl (fun zc2 => ?_) (fun zc2 => ?_)
    · have h := zf zc2 h
      refine lv_iconst (v := 0) (pc := 78) hx hb dX9_net_78 zk_c0 ?_
      refine lv_istore (pc := 79) (lv' := [(6, .int 0), (0, .ref (mq 0)), (1, .int x1), (2, .int x2), (3, .int x3), (4, .int x4), (5, .int x5)]) hx hb dX9_net_79 hl (by decide) rfl (fun ls hl => ?_)
      refine lv_iload_n (pc := 81) hx hb dX9_net_81 rfl (lv_at hl 2 rfl) ?_
      refine lv_iconst (v := 1) (pc := 82) hx hb dX9_net_82 zk_c1 ?_
      refine lv_icmp_eq (pc := 83) (tgt := 138) hx hb dX9_net_83 rfl (fun zc3 => ?_) (fun zc3 => ?_)
      · have h := zt zc3 h
        refine lv_iconst (v := 1) (pc := 138) hx hb dX9_net_138 zk_c1 ?_
        refine lv_goto (pc := 139) (tgt := 143) hx hb dX9_net_139 rfl ?_
        refine lv_istore (pc := 143) (lv' := [(7, .int 1), (6, .int 0), (0, .ref (mq 0)), (1, .int x1), (2, .int x2), (3, .int x3), (4, .int x4), (5, .int x5)]) hx hb dX9_net_143 hl (by decide) rfl (fun ls hl => ?_)
        refine lv_iload (pc := 145) hx hb dX9_net_145 (lv_at hl 0 rfl) ?_
        refine lv_if_eq (pc := 147) (tgt := 160) hx hb dX9_net_147 rfl (fun zc4 => ?_) (fun zc4 => ?_)
        · exact absurd zc4 (by decide)
        refine lv_aload_n (pc := 150) hx hb dX9_net_150 rfl (lv_at hl 2 rfl) ?_
        refine lv_iload (pc := 151) hx hb dX9_net_151 (lv_at hl 6 rfl) ?_
        refine lv_iload (pc := 153) hx hb dX9_net_153 (lv_at hl 7 rfl) ?_
        refine lv_iload_n (pc := 155) hx hb dX9_net_155 rfl (lv_at hl 4 rfl) ?_
        refine lv_iload_n (pc := 156) hx hb dX9_net_156 rfl (lv_at hl 5 rfl) ?_
        obtain ⟨zr5, hzr5, h⟩ := zb h
        refine zcV (pc := 157) (As := [.int x4, .int x5, .int x2, .int x3]) (rest := []) (st1 := []) (ws' := wM cy mq m_hosts m_lost m_late zr5.1 zr5.2 m_blocks m_sends m_many m_made m_madeMany m_lacking m_thrown m_now m_ahead m_then m_time m_timeThen m_isThere m_comes) (wr := []) (n := 4) (q0 := 0) X (c_X9_tie l G cy fu mq m_hosts m_lost m_late m_wait m_per m_blocks m_sends m_many m_made m_madeMany m_lacking m_thrown m_now m_ahead m_then m_time m_timeThen m_isThere m_comes x4 x5 x2 x3 zr5 hzr5) hH [0, 1, 2, 3, 4, 5, 6, 7, 8, 9, 10, 11, 12, 13, 14] [] [0, 1, 2, 3, 4, 5, 6, 7, 8, 9, 10, 11, 12, 13, 14] rfl rfl rfl rfl gX9_net_X9_tie rfl ⟨rfl, rfl⟩ kX9_tie ⟨Nat.le_of_ble_eq_true rfl, Nat.le_of_ble_eq_true rfl⟩ rfl rfl rfl rfl rfl hl.1 (Nat.le_of_ble_eq_true rfl) ⟨Nat.le_of_ble_eq_true rfl, Nat.le_of_ble_eq_true rfl⟩ dX9_net_157 (fun H locs hH => ?_)
        refine lv_iinc (pc := 160) (v := (x5 + 1)) (lv' := [(5, .int (x5 + 1)), (7, .int 1), (6, .int 0), (0, .ref (mq 0)), (1, .int x1), (2, .int x2), (3, .int x3), (4, .int x4)]) hx hb dX9_net_160 hl (k := 7) rfl (by rw [zk_c1]) (by decide) rfl (fun ls hl => ?_)
        refine lv_goto (pc := 163) (tgt := 56) hx hb dX9_net_163 rfl ?_
        exact ih (x5 + 1) zr5.1 zr5.2 rr h _ _ _ hH (lv_sub hl [3, 4, 5, 6, 7, 0] rfl) K0
      have h := zf zc3 h
      refine lv_iload_n (pc := 86) hx hb dX9_net_86 rfl (lv_at hl 2 rfl) ?_
      refine lv_iconst (v := 2) (pc := 87) hx hb dX9_net_87 zk_c2 ?_
      refine lv_icmp_ne (pc := 88) (tgt := 96) hx hb dX9_net_88 rfl (fun zc6 => ?_) (fun zc6 => ?_)
      · have h := zf zc6 h
        refine lv_iload_n (pc := 96) hx hb dX9_net_96 rfl (lv_at hl 2 rfl) ?_
        refine lv_if_ne (pc := 97) (tgt := 121) hx hb dX9_net_97 rfl (fun zc7 => ?_) (fun zc7 => ?_)
        · have h := zf zc7 h
          refine lv_iload_n (pc := 121) hx hb dX9_net_121 rfl (lv_at hl 2 rfl) ?_
          refine lv_iconst (v := 3) (pc := 122) hx hb dX9_net_122 zk_c3 ?_
          refine lv_icmp_ne (pc := 123) (tgt := 142) hx hb dX9_net_123 rfl (fun zc8 => ?_) (fun zc8 => ?_)
          · have h := zf zc8 h
            refine lv_iconst (v := 0) (pc := 142) hx hb dX9_net_142 zk_c0 ?_
            refine lv_istore (pc := 143) (lv' := [(7, .int 0), (6, .int 0), (0, .ref (mq 0)), (1, .int x1), (2, .int x2), (3, .int x3), (4, .int x4), (5, .int x5)]) hx hb dX9_net_143 hl (by decide) rfl (fun ls hl => ?_)
            refine lv_iload (pc := 145) hx hb dX9_net_145 (lv_at hl 0 rfl) ?_
            refine lv_if_eq (pc := 147) (tgt := 160) hx hb dX9_net_147 rfl (fun zc9 => ?_) (fun zc9 => ?_)
            · refine lv_iinc (pc := 160) (v := (x5 + 1)) (lv' := [(5, .int (x5 + 1)), (7, .int 0), (6, .int 0), (0, .ref (mq 0)), (1, .int x1), (2, .int x2), (3, .int x3), (4, .int x4)]) hx hb dX9_net_160 hl (k := 7) rfl (by rw [zk_c1]) (by decide) rfl (fun ls hl => ?_)
              refine lv_goto (pc := 163) (tgt := 56) hx hb dX9_net_163 rfl ?_
              exact ih (x5 + 1) m_wait m_per rr h _ _ _ hH (lv_sub hl [3, 4, 5, 6, 7, 0] rfl) K0
            exact absurd (by decide) zc9
          have h := zt zc8 h
          refine lv_iload (pc := 126) hx hb dX9_net_126 (lv_at hl 5 rfl) ?_
          refine lv_iload (pc := 128) hx hb dX9_net_128 (lv_at hl 6 rfl) ?_
          refine lv_ixor (pc := 130) hx hb dX9_net_130 ?_
          obtain ⟨zr10, hzr10, h⟩ := zb h
          refine zcS (pc := 131) (As := [.int (x4 ^^^ x5)]) (rest := []) (st1 := [.int zr10]) (ws' := wM cy mq m_hosts m_lost m_late m_wait m_per m_blocks m_sends m_many m_made m_madeMany m_lacking m_thrown m_now m_ahead m_then m_time m_timeThen m_isThere m_comes) (wr := [((mq 0), .inr (8, [.int m_hosts, .ref (mq 1), .ref (mq 2), .ref (mq 3), .ref (mq 4), .ref (mq 5), .ref (mq 6), .int m_many, .ref (mq 7), .int m_madeMany, .int m_lacking, .int m_thrown, .ref (mq 8), .ref (mq 9), .ref (mq 10), .ref (mq 11), .ref (mq 12), .ref (mq 13), .ref (mq 14)])), ((mq 1), .inl (cy 2, 16, .inl m_lost)), ((mq 2), .inl (cy 0, 16, .inl m_late)), ((mq 3), .inl (cy 0, 256, .inl m_wait)), ((mq 4), .inl (cy 0, 256, .inl m_per)), ((mq 5), .inl (cy 0, 256, .inl m_blocks)), ((mq 6), .inl (cy 0, 7200, .inl m_sends)), ((mq 7), .inl (cy 0, 7200, .inl m_made)), ((mq 8), .inl (cy 3, 65536, .inl m_now)), ((mq 9), .inl (cy 3, 65536, .inl m_ahead)), ((mq 10), .inl (cy 0, 256, .inl m_then)), ((mq 11), .inl (cy 0, 16, .inl m_time)), ((mq 12), .inl (cy 0, 16, .inl m_timeThen)), ((mq 13), .inl (cy 2, 256, .inl m_isThere)), ((mq 14), .inl (cy 2, 256, .inl m_comes))]) (n := 1) X (c_J6_bitCount_0f7a4 l G cy fu (x4 ^^^ x5) zr10 hzr10) hH [] [0, 1, 2, 3, 4, 5, 6, 7, 8, 9, 10, 11, 12, 13, 14] [0, 1, 2, 3, 4, 5, 6, 7, 8, 9, 10, 11, 12, 13, 14] rfl rfl rfl rfl gX9_net_J6_bitCount_0f7a4 rfl ⟨rfl, rfl⟩ kJ6_bitCount_0f7a4 ⟨Nat.le_of_ble_eq_true rfl, Nat.le_of_ble_eq_true rfl⟩ rfl rfl rfl hl.1 (Nat.le_of_ble_eq_true rfl) ⟨Nat.le_of_ble_eq_true rfl, Nat.le_of_ble_eq_true rfl⟩ dX9_net_131 (fun H locs hH => ?_)
          refine lv_iconst (v := 1) (pc := 134) hx hb dX9_net_134 zk_c1 ?_
          refine lv_icmp_ne (pc := 135) (tgt := 142) hx hb dX9_net_135 rfl (fun zc11 => ?_) (fun zc11 => ?_)
          · have h := zf zc11 h
            refine lv_iconst (v := 0) (pc := 142) hx hb dX9_net_142 zk_c0 ?_
            refine lv_istore (pc := 143) (lv' := [(7, .int 0), (6, .int 0), (0, .ref (mq 0)), (1, .int x1), (2, .int x2), (3, .int x3), (4, .int x4), (5, .int x5)]) hx hb dX9_net_143 hl (by decide) rfl (fun ls hl => ?_)
            refine lv_iload (pc := 145) hx hb dX9_net_145 (lv_at hl 0 rfl) ?_
            refine lv_if_eq (pc := 147) (tgt := 160) hx hb dX9_net_147 rfl (fun zc12 => ?_) (fun zc12 => ?_)
            · refine lv_iinc (pc := 160) (v := (x5 + 1)) (lv' := [(5, .int (x5 + 1)), (7, .int 0), (6, .int 0), (0, .ref (mq 0)), (1, .int x1), (2, .int x2), (3, .int x3), (4, .int x4)]) hx hb dX9_net_160 hl (k := 7) rfl (by rw [zk_c1]) (by decide) rfl (fun ls hl => ?_)
              refine lv_goto (pc := 163) (tgt := 56) hx hb dX9_net_163 rfl ?_
              exact ih (x5 + 1) m_wait m_per rr h _ _ _ hH (lv_sub hl [3, 4, 5, 6, 7, 0] rfl) K0
            exact absurd (by decide) zc12
          have h := zt zc11 h
          refine lv_iconst (v := 1) (pc := 138) hx hb dX9_net_138 zk_c1 ?_
          refine lv_goto (pc := 139) (tgt := 143) hx hb dX9_net_139 rfl ?_
          refine lv_istore (pc := 143) (lv' := [(7, .int 1), (6, .int 0), (0, .ref (mq 0)), (1, .int x1), (2, .int x2), (3, .int x3), (4, .int x4), (5, .int x5)]) hx hb dX9_net_143 hl (by decide) rfl (fun ls hl => ?_)
          refine lv_iload (pc := 145) hx hb dX9_net_145 (lv_at hl 0 rfl) ?_
          refine lv_if_eq (pc := 147) (tgt := 160) hx hb dX9_net_147 rfl (fun zc13 => ?_) (fun zc13 => ?_)
          · exact absurd zc13 (by decide)
          refine lv_aload_n (pc := 150) hx hb dX9_net_150 rfl (lv_at hl 2 rfl) ?_
          refine lv_iload (pc := 151) hx hb dX9_net_151 (lv_at hl 6 rfl) ?_
          refine lv_iload (pc := 153) hx hb dX9_net_153 (lv_at hl 7 rfl) ?_
          refine lv_iload_n (pc := 155) hx hb dX9_net_155 rfl (lv_at hl 4 rfl) ?_
          refine lv_iload_n (pc := 156) hx hb dX9_net_156 rfl (lv_at hl 5 rfl) ?_
          obtain ⟨zr14, hzr14, h⟩ := zb h
          refine zcV (pc := 157) (As := [.int x4, .int x5, .int x2, .int x3]) (rest := []) (st1 := []) (ws' := wM cy mq m_hosts m_lost m_late zr14.1 zr14.2 m_blocks m_sends m_many m_made m_madeMany m_lacking m_thrown m_now m_ahead m_then m_time m_timeThen m_isThere m_comes) (wr := []) (n := 4) (q0 := 0) X (c_X9_tie l G cy fu mq m_hosts m_lost m_late m_wait m_per m_blocks m_sends m_many m_made m_madeMany m_lacking m_thrown m_now m_ahead m_then m_time m_timeThen m_isThere m_comes x4 x5 x2 x3 zr14 hzr14) hH [0, 1, 2, 3, 4, 5, 6, 7, 8, 9, 10, 11, 12, 13, 14] [] [0, 1, 2, 3, 4, 5, 6, 7, 8, 9, 10, 11, 12, 13, 14] rfl rfl rfl rfl gX9_net_X9_tie rfl ⟨rfl, rfl⟩ kX9_tie ⟨Nat.le_of_ble_eq_true rfl, Nat.le_of_ble_eq_true rfl⟩ rfl rfl rfl rfl rfl hl.1 (Nat.le_of_ble_eq_true rfl) ⟨Nat.le_of_ble_eq_true rfl, Nat.le_of_ble_eq_true rfl⟩ dX9_net_157 (fun H locs hH => ?_)
          refine lv_iinc (pc := 160) (v := (x5 + 1)) (lv' := [(5, .int (x5 + 1)), (7, .int 1), (6, .int 0), (0, .ref (mq 0)), (1, .int x1), (2, .int x2), (3, .int x3), (4, .int x4)]) hx hb dX9_net_160 hl (k := 7) rfl (by rw [zk_c1]) (by decide) rfl (fun ls hl => ?_)
          refine lv_goto (pc := 163) (tgt := 56) hx hb dX9_net_163 rfl ?_
          exact ih (x5 + 1) zr14.1 zr14.2 rr h _ _ _ hH (lv_sub hl [3, 4, 5, 6, 7, 0] rfl) K0
        have h := zt zc7 h
        refine lv_iload (pc := 100) hx hb dX9_net_100 (lv_at hl 0 rfl) ?_
        refine lv_if_ne (pc := 102) (tgt := 138) hx hb dX9_net_102 rfl (fun zc15 => ?_) (fun zc15 => ?_)
        · exact absurd (by decide) zc15
        refine lv_iload (pc := 105) hx hb dX9_net_105 (lv_at hl 5 rfl) ?_
        refine lv_if_ne (pc := 107) (tgt := 121) hx hb dX9_net_107 rfl (fun zc16 => ?_) (fun zc16 => ?_)
        · have h := zf zc16 h
          refine lv_iload_n (pc := 121) hx hb dX9_net_121 rfl (lv_at hl 2 rfl) ?_
          refine lv_iconst (v := 3) (pc := 122) hx hb dX9_net_122 zk_c3 ?_
          refine lv_icmp_ne (pc := 123) (tgt := 142) hx hb dX9_net_123 rfl (fun zc17 => ?_) (fun zc17 => ?_)
          · refine lv_iconst (v := 0) (pc := 142) hx hb dX9_net_142 zk_c0 ?_
            refine lv_istore (pc := 143) (lv' := [(7, .int 0), (6, .int 0), (0, .ref (mq 0)), (1, .int x1), (2, .int x2), (3, .int x3), (4, .int x4), (5, .int x5)]) hx hb dX9_net_143 hl (by decide) rfl (fun ls hl => ?_)
            refine lv_iload (pc := 145) hx hb dX9_net_145 (lv_at hl 0 rfl) ?_
            refine lv_if_eq (pc := 147) (tgt := 160) hx hb dX9_net_147 rfl (fun zc18 => ?_) (fun zc18 => ?_)
            · refine lv_iinc (pc := 160) (v := (x5 + 1)) (lv' := [(5, .int (x5 + 1)), (7, .int 0), (6, .int 0), (0, .ref (mq 0)), (1, .int x1), (2, .int x2), (3, .int x3), (4, .int x4)]) hx hb dX9_net_160 hl (k := 7) rfl (by rw [zk_c1]) (by decide) rfl (fun ls hl => ?_)
              refine lv_goto (pc := 163) (tgt := 56) hx hb dX9_net_163 rfl ?_
              exact ih (x5 + 1) m_wait m_per rr h _ _ _ hH (lv_sub hl [3, 4, 5, 6, 7, 0] rfl) K0
            exact absurd (by decide) zc18
          exact absurd (zc7.symm.trans zc17) (by decide)
        have h := zt zc16 h
        refine lv_iload (pc := 110) hx hb dX9_net_110 (lv_at hl 6 rfl) ?_
        refine lv_aload_n (pc := 112) hx hb dX9_net_112 rfl (lv_at hl 1 rfl) ?_
        refine z_get (pc := 113) (v := .int m_hosts) X iX9_net_X9 hH 0 rfl rfl 0 rfl (List.mem_of_getElem? (i := 2) rfl) rfl dX9_net_113 ?_
        refine lv_iconst (v := 1) (pc := 116) hx hb dX9_net_116 zk_c1 ?_
        refine lv_isub (pc := 117) hx hb dX9_net_117 ?_
        refine lv_icmp_eq (pc := 118) (tgt := 138) hx hb dX9_net_118 rfl (fun zc19 => ?_) (fun zc19 => ?_)
        · have h := zt zc19 h
          refine lv_iconst (v := 1) (pc := 138) hx hb dX9_net_138 zk_c1 ?_
          refine lv_goto (pc := 139) (tgt := 143) hx hb dX9_net_139 rfl ?_
          refine lv_istore (pc := 143) (lv' := [(7, .int 1), (6, .int 0), (0, .ref (mq 0)), (1, .int x1), (2, .int x2), (3, .int x3), (4, .int x4), (5, .int x5)]) hx hb dX9_net_143 hl (by decide) rfl (fun ls hl => ?_)
          refine lv_iload (pc := 145) hx hb dX9_net_145 (lv_at hl 0 rfl) ?_
          refine lv_if_eq (pc := 147) (tgt := 160) hx hb dX9_net_147 rfl (fun zc20 => ?_) (fun zc20 => ?_)
          · exact absurd zc20 (by decide)
          refine lv_aload_n (pc := 150) hx hb dX9_net_150 rfl (lv_at hl 2 rfl) ?_
          refine lv_iload (pc := 151) hx hb dX9_net_151 (lv_at hl 6 rfl) ?_
          refine lv_iload (pc := 153) hx hb dX9_net_153 (lv_at hl 7 rfl) ?_
          refine lv_iload_n (pc := 155) hx hb dX9_net_155 rfl (lv_at hl 4 rfl) ?_
          refine lv_iload_n (pc := 156) hx hb dX9_net_156 rfl (lv_at hl 5 rfl) ?_
          obtain ⟨zr21, hzr21, h⟩ := zb h
          refine zcV (pc := 157) (As := [.int x4, .int x5, .int x2, .int x3]) (rest := []) (st1 := []) (ws' := wM cy mq m_hosts m_lost m_late zr21.1 zr21.2 m_blocks m_sends m_many m_made m_madeMany m_lacking m_thrown m_now m_ahead m_then m_time m_timeThen m_isThere m_comes) (wr := []) (n := 4) (q0 := 0) X (c_X9_tie l G cy fu mq m_hosts m_lost m_late m_wait m_per m_blocks m_sends m_many m_made m_madeMany m_lacking m_thrown m_now m_ahead m_then m_time m_timeThen m_isThere m_comes x4 x5 x2 x3 zr21 hzr21) hH [0, 1, 2, 3, 4, 5, 6, 7, 8, 9, 10, 11, 12, 13, 14] [] [0, 1, 2, 3, 4, 5, 6, 7, 8, 9, 10, 11, 12, 13, 14] rfl rfl rfl rfl gX9_net_X9_tie rfl ⟨rfl, rfl⟩ kX9_tie ⟨Nat.le_of_ble_eq_true rfl, Nat.le_of_ble_eq_true rfl⟩ rfl rfl rfl rfl rfl hl.1 (Nat.le_of_ble_eq_true rfl) ⟨Nat.le_of_ble_eq_true rfl, Nat.le_of_ble_eq_true rfl⟩ dX9_net_157 (fun H locs hH => ?_)
          refine lv_iinc (pc := 160) (v := (x5 + 1)) (lv' := [(5, .int (x5 + 1)), (7, .int 1), (6, .int 0), (0, .ref (mq 0)), (1, .int x1), (2, .int x2), (3, .int x3), (4, .int x4)]) hx hb dX9_net_160 hl (k := 7) rfl (by rw [zk_c1]) (by decide) rfl (fun ls hl => ?_)
          refine lv_goto (pc := 163) (tgt := 56) hx hb dX9_net_163 rfl ?_
          exact ih (x5 + 1) zr21.1 zr21.2 rr h _ _ _ hH (lv_sub hl [3, 4, 5, 6, 7, 0] rfl) K0
        have h := zf zc19 h
        refine lv_iload_n (pc := 121) hx hb dX9_net_121 rfl (lv_at hl 2 rfl) ?_
        refine lv_iconst (v := 3) (pc := 122) hx hb dX9_net_122 zk_c3 ?_
        refine lv_icmp_ne (pc := 123) (tgt := 142) hx hb dX9_net_123 rfl (fun zc22 => ?_) (fun zc22 => ?_)
        · refine lv_iconst (v := 0) (pc := 142) hx hb dX9_net_142 zk_c0 ?_
          refine lv_istore (pc := 143) (lv' := [(7, .int 0), (6, .int 0), (0, .ref (mq 0)), (1, .int x1), (2, .int x2), (3, .int x3), (4, .int x4), (5, .int x5)]) hx hb dX9_net_143 hl (by decide) rfl (fun ls hl => ?_)
          refine lv_iload (pc := 145) hx hb dX9_net_145 (lv_at hl 0 rfl) ?_
          refine lv_if_eq (pc := 147) (tgt := 160) hx hb dX9_net_147 rfl (fun zc23 => ?_) (fun zc23 => ?_)
          · refine lv_iinc (pc := 160) (v := (x5 + 1)) (lv' := [(5, .int (x5 + 1)), (7, .int 0), (6, .int 0), (0, .ref (mq 0)), (1, .int x1), (2, .int x2), (3, .int x3), (4, .int x4)]) hx hb dX9_net_160 hl (k := 7) rfl (by rw [zk_c1]) (by decide) rfl (fun ls hl => ?_)
            refine lv_goto (pc := 163) (tgt := 56) hx hb dX9_net_163 rfl ?_
            exact ih (x5 + 1) m_wait m_per rr h _ _ _ hH (lv_sub hl [3, 4, 5, 6, 7, 0] rfl) K0
          exact absurd (by decide) zc23
        exact absurd (zc7.symm.trans zc22) (by decide)
      have h := zt zc6 h
      refine lv_iload (pc := 91) hx hb dX9_net_91 (lv_at hl 0 rfl) ?_
      refine lv_if_ne (pc := 93) (tgt := 138) hx hb dX9_net_93 rfl (fun zc24 => ?_) (fun zc24 => ?_)
      · exact absurd (by decide) zc24
      refine lv_iload_n (pc := 96) hx hb dX9_net_96 rfl (lv_at hl 2 rfl) ?_
      refine lv_if_ne (pc := 97) (tgt := 121) hx hb dX9_net_97 rfl (fun zc25 => ?_) (fun zc25 => ?_)
      · refine lv_iload_n (pc := 121) hx hb dX9_net_121 rfl (lv_at hl 2 rfl) ?_
        refine lv_iconst (v := 3) (pc := 122) hx hb dX9_net_122 zk_c3 ?_
        refine lv_icmp_ne (pc := 123) (tgt := 142) hx hb dX9_net_123 rfl (fun zc26 => ?_) (fun zc26 => ?_)
        · refine lv_iconst (v := 0) (pc := 142) hx hb dX9_net_142 zk_c0 ?_
          refine lv_istore (pc := 143) (lv' := [(7, .int 0), (6, .int 0), (0, .ref (mq 0)), (1, .int x1), (2, .int x2), (3, .int x3), (4, .int x4), (5, .int x5)]) hx hb dX9_net_143 hl (by decide) rfl (fun ls hl => ?_)
          refine lv_iload (pc := 145) hx hb dX9_net_145 (lv_at hl 0 rfl) ?_
          refine lv_if_eq (pc := 147) (tgt := 160) hx hb dX9_net_147 rfl (fun zc27 => ?_) (fun zc27 => ?_)
          · refine lv_iinc (pc := 160) (v := (x5 + 1)) (lv' := [(5, .int (x5 + 1)), (7, .int 0), (6, .int 0), (0, .ref (mq 0)), (1, .int x1), (2, .int x2), (3, .int x3), (4, .int x4)]) hx hb dX9_net_160 hl (k := 7) rfl (by rw [zk_c1]) (by decide) rfl (fun ls hl => ?_)
            refine lv_goto (pc := 163) (tgt := 56) hx hb dX9_net_163 rfl ?_
            exact ih (x5 + 1) m_wait m_per rr h _ _ _ hH (lv_sub hl [3, 4, 5, 6, 7, 0] rfl) K0
          exact absurd (by decide) zc27
        exact absurd (zc6.symm.trans zc26) (by decide)
      exact absurd (zc6.symm.trans zc25) (by decide)
    have h := zt zc2 h
    refine lv_iconst (v := 1) (pc := 74) hx hb dX9_net_74 zk_c1 ?_
    refine lv_goto (pc := 75) (tgt := 79) hx hb dX9_net_75 rfl ?_
    refine lv_istore (pc := 79) (lv' := [(6, .int 1), (0, .ref (mq 0)), (1, .int x1), (2, .int x2), (3, .int x3), (4, .int x4), (5, .int x5)]) hx hb dX9_net_79 hl (by decide) rfl (fun ls hl => ?_)
    refine lv_iload_n (pc := 81) hx hb dX9_net_81 rfl (lv_at hl 2 rfl) ?_
    refine lv_iconst (v := 1) (pc := 82) hx hb dX9_net_82 zk_c1 ?_
    refine lv_icmp_eq (pc := 83) (tgt := 138) hx hb dX9_net_83 rfl (fun zc28 => ?_) (fun zc28 => ?_)
    · have h := zt zc28 h
      refine lv_iconst (v := 1) (pc := 138) hx hb dX9_net_138 zk_c1 ?_
      refine lv_goto (pc := 139) (tgt := 143) hx hb dX9_net_139 rfl ?_
      refine lv_istore (pc := 143) (lv' := [(7, .int 1), (6, .int 1), (0, .ref (mq 0)), (1, .int x1), (2, .int x2), (3, .int x3), (4, .int x4), (5, .int x5)]) hx hb dX9_net_143 hl (by decide) rfl (fun ls hl => ?_)
      refine lv_iload (pc := 145) hx hb dX9_net_145 (lv_at hl 0 rfl) ?_
      refine lv_if_eq (pc := 147) (tgt := 160) hx hb dX9_net_147 rfl (fun zc29 => ?_) (fun zc29 => ?_)
      · exact absurd zc29 (by decide)
      refine lv_aload_n (pc := 150) hx hb dX9_net_150 rfl (lv_at hl 2 rfl) ?_
      refine lv_iload (pc := 151) hx hb dX9_net_151 (lv_at hl 6 rfl) ?_
      refine lv_iload (pc := 153) hx hb dX9_net_153 (lv_at hl 7 rfl) ?_
      refine lv_iload_n (pc := 155) hx hb dX9_net_155 rfl (lv_at hl 4 rfl) ?_
      refine lv_iload_n (pc := 156) hx hb dX9_net_156 rfl (lv_at hl 5 rfl) ?_
      obtain ⟨zr30, hzr30, h⟩ := zb h
      refine zcV (pc := 157) (As := [.int x4, .int x5, .int x2, .int x3]) (rest := []) (st1 := []) (ws' := wM cy mq m_hosts m_lost m_late zr30.1 zr30.2 m_blocks m_sends m_many m_made m_madeMany m_lacking m_thrown m_now m_ahead m_then m_time m_timeThen m_isThere m_comes) (wr := []) (n := 4) (q0 := 0) X (c_X9_tie l G cy fu mq m_hosts m_lost m_late m_wait m_per m_blocks m_sends m_many m_made m_madeMany m_lacking m_thrown m_now m_ahead m_then m_time m_timeThen m_isThere m_comes x4 x5 x2 x3 zr30 hzr30) hH [0, 1, 2, 3, 4, 5, 6, 7, 8, 9, 10, 11, 12, 13, 14] [] [0, 1, 2, 3, 4, 5, 6, 7, 8, 9, 10, 11, 12, 13, 14] rfl rfl rfl rfl gX9_net_X9_tie rfl ⟨rfl, rfl⟩ kX9_tie ⟨Nat.le_of_ble_eq_true rfl, Nat.le_of_ble_eq_true rfl⟩ rfl rfl rfl rfl rfl hl.1 (Nat.le_of_ble_eq_true rfl) ⟨Nat.le_of_ble_eq_true rfl, Nat.le_of_ble_eq_true rfl⟩ dX9_net_157 (fun H locs hH => ?_)
      refine lv_iinc (pc := 160) (v := (x5 + 1)) (lv' := [(5, .int (x5 + 1)), (7, .int 1), (6, .int 1), (0, .ref (mq 0)), (1, .int x1), (2, .int x2), (3, .int x3), (4, .int x4)]) hx hb dX9_net_160 hl (k := 7) rfl (by rw [zk_c1]) (by decide) rfl (fun ls hl => ?_)
      refine lv_goto (pc := 163) (tgt := 56) hx hb dX9_net_163 rfl ?_
      exact ih (x5 + 1) zr30.1 zr30.2 rr h _ _ _ hH (lv_sub hl [3, 4, 5, 6, 7, 0] rfl) K0
    have h := zf zc28 h
    refine lv_iload_n (pc := 86) hx hb dX9_net_86 rfl (lv_at hl 2 rfl) ?_
    refine lv_iconst (v := 2) (pc := 87) hx hb dX9_net_87 zk_c2 ?_
    refine lv_icmp_ne (pc := 88) (tgt := 96) hx hb dX9_net_88 rfl (fun zc31 => ?_) (fun zc31 => ?_)
    · have h := zf zc31 h
      refine lv_iload_n (pc := 96) hx hb dX9_net_96 rfl (lv_at hl 2 rfl) ?_
      refine lv_if_ne (pc := 97) (tgt := 121) hx hb dX9_net_97 rfl (fun zc32 => ?_) (fun zc32 => ?_)
      · have h := zf zc32 h
        refine lv_iload_n (pc := 121) hx hb dX9_net_121 rfl (lv_at hl 2 rfl) ?_
        refine lv_iconst (v := 3) (pc := 122) hx hb dX9_net_122 zk_c3 ?_
        refine lv_icmp_ne (pc := 123) (tgt := 142) hx hb dX9_net_123 rfl (fun zc33 => ?_) (fun zc33 => ?_)
        · have h := zf zc33 h
          refine lv_iconst (v := 0) (pc := 142) hx hb dX9_net_142 zk_c0 ?_
          refine lv_istore (pc := 143) (lv' := [(7, .int 0), (6, .int 1), (0, .ref (mq 0)), (1, .int x1), (2, .int x2), (3, .int x3), (4, .int x4), (5, .int x5)]) hx hb dX9_net_143 hl (by decide) rfl (fun ls hl => ?_)
          refine lv_iload (pc := 145) hx hb dX9_net_145 (lv_at hl 0 rfl) ?_
          refine lv_if_eq (pc := 147) (tgt := 160) hx hb dX9_net_147 rfl (fun zc34 => ?_) (fun zc34 => ?_)
          · refine lv_iinc (pc := 160) (v := (x5 + 1)) (lv' := [(5, .int (x5 + 1)), (7, .int 0), (6, .int 1), (0, .ref (mq 0)), (1, .int x1), (2, .int x2), (3, .int x3), (4, .int x4)]) hx hb dX9_net_160 hl (k := 7) rfl (by rw [zk_c1]) (by decide) rfl (fun ls hl => ?_)
            refine lv_goto (pc := 163) (tgt := 56) hx hb dX9_net_163 rfl ?_
            exact ih (x5 + 1) m_wait m_per rr h _ _ _ hH (lv_sub hl [3, 4, 5, 6, 7, 0] rfl) K0
          exact absurd (by decide) zc34
        have h := zt zc33 h
        refine lv_iload (pc := 126) hx hb dX9_net_126 (lv_at hl 5 rfl) ?_
        refine lv_iload (pc := 128) hx hb dX9_net_128 (lv_at hl 6 rfl) ?_
        refine lv_ixor (pc := 130) hx hb dX9_net_130 ?_
        obtain ⟨zr35, hzr35, h⟩ := zb h
        refine zcS (pc := 131) (As := [.int (x4 ^^^ x5)]) (rest := []) (st1 := [.int zr35]) (ws' := wM cy mq m_hosts m_lost m_late m_wait m_per m_blocks m_sends m_many m_made m_madeMany m_lacking m_thrown m_now m_ahead m_then m_time m_timeThen m_isThere m_comes) (wr := [((mq 0), .inr (8, [.int m_hosts, .ref (mq 1), .ref (mq 2), .ref (mq 3), .ref (mq 4), .ref (mq 5), .ref (mq 6), .int m_many, .ref (mq 7), .int m_madeMany, .int m_lacking, .int m_thrown, .ref (mq 8), .ref (mq 9), .ref (mq 10), .ref (mq 11), .ref (mq 12), .ref (mq 13), .ref (mq 14)])), ((mq 1), .inl (cy 2, 16, .inl m_lost)), ((mq 2), .inl (cy 0, 16, .inl m_late)), ((mq 3), .inl (cy 0, 256, .inl m_wait)), ((mq 4), .inl (cy 0, 256, .inl m_per)), ((mq 5), .inl (cy 0, 256, .inl m_blocks)), ((mq 6), .inl (cy 0, 7200, .inl m_sends)), ((mq 7), .inl (cy 0, 7200, .inl m_made)), ((mq 8), .inl (cy 3, 65536, .inl m_now)), ((mq 9), .inl (cy 3, 65536, .inl m_ahead)), ((mq 10), .inl (cy 0, 256, .inl m_then)), ((mq 11), .inl (cy 0, 16, .inl m_time)), ((mq 12), .inl (cy 0, 16, .inl m_timeThen)), ((mq 13), .inl (cy 2, 256, .inl m_isThere)), ((mq 14), .inl (cy 2, 256, .inl m_comes))]) (n := 1) X (c_J6_bitCount_0f7a4 l G cy fu (x4 ^^^ x5) zr35 hzr35) hH [] [0, 1, 2, 3, 4, 5, 6, 7, 8, 9, 10, 11, 12, 13, 14] [0, 1, 2, 3, 4, 5, 6, 7, 8, 9, 10, 11, 12, 13, 14] rfl rfl rfl rfl gX9_net_J6_bitCount_0f7a4 rfl ⟨rfl, rfl⟩ kJ6_bitCount_0f7a4 ⟨Nat.le_of_ble_eq_true rfl, Nat.le_of_ble_eq_true rfl⟩ rfl rfl rfl hl.1 (Nat.le_of_ble_eq_true rfl) ⟨Nat.le_of_ble_eq_true rfl, Nat.le_of_ble_eq_true rfl⟩ dX9_net_131 (fun H locs hH => ?_)
        refine lv_iconst (v := 1) (pc := 134) hx hb dX9_net_134 zk_c1 ?_
        refine lv_icmp_ne (pc := 135) (tgt := 142) hx hb dX9_net_135 rfl (fun zc36 => ?_) (fun zc36 => ?_)
        · have h := zf zc36 h
          refine lv_iconst (v := 0) (pc := 142) hx hb dX9_net_142 zk_c0 ?_
          refine lv_istore (pc := 143) (lv' := [(7, .int 0), (6, .int 1), (0, .ref (mq 0)), (1, .int x1), (2, .int x2), (3, .int x3), (4, .int x4), (5, .int x5)]) hx hb dX9_net_143 hl (by decide) rfl (fun ls hl => ?_)
          refine lv_iload (pc := 145) hx hb dX9_net_145 (lv_at hl 0 rfl) ?_
          refine lv_if_eq (pc := 147) (tgt := 160) hx hb dX9_net_147 rfl (fun zc37 => ?_) (fun zc37 => ?_)
          · refine lv_iinc (pc := 160) (v := (x5 + 1)) (lv' := [(5, .int (x5 + 1)), (7, .int 0), (6, .int 1), (0, .ref (mq 0)), (1, .int x1), (2, .int x2), (3, .int x3), (4, .int x4)]) hx hb dX9_net_160 hl (k := 7) rfl (by rw [zk_c1]) (by decide) rfl (fun ls hl => ?_)
            refine lv_goto (pc := 163) (tgt := 56) hx hb dX9_net_163 rfl ?_
            exact ih (x5 + 1) m_wait m_per rr h _ _ _ hH (lv_sub hl [3, 4, 5, 6, 7, 0] rfl) K0
          exact absurd (by decide) zc37
        have h := zt zc36 h
        refine lv_iconst (v := 1) (pc := 138) hx hb dX9_net_138 zk_c1 ?_
        refine lv_goto (pc := 139) (tgt := 143) hx hb dX9_net_139 rfl ?_
        refine lv_istore (pc := 143) (lv' := [(7, .int 1), (6, .int 1), (0, .ref (mq 0)), (1, .int x1), (2, .int x2), (3, .int x3), (4, .int x4), (5, .int x5)]) hx hb dX9_net_143 hl (by decide) rfl (fun ls hl => ?_)
        refine lv_iload (pc := 145) hx hb dX9_net_145 (lv_at hl 0 rfl) ?_
        refine lv_if_eq (pc := 147) (tgt := 160) hx hb dX9_net_147 rfl (fun zc38 => ?_) (fun zc38 => ?_)
        · exact absurd zc38 (by decide)
        refine lv_aload_n (pc := 150) hx hb dX9_net_150 rfl (lv_at hl 2 rfl) ?_
        refine lv_iload (pc := 151) hx hb dX9_net_151 (lv_at hl 6 rfl) ?_
        refine lv_iload (pc := 153) hx hb dX9_net_153 (lv_at hl 7 rfl) ?_
        refine lv_iload_n (pc := 155) hx hb dX9_net_155 rfl (lv_at hl 4 rfl) ?_
        refine lv_iload_n (pc := 156) hx hb dX9_net_156 rfl (lv_at hl 5 rfl) ?_
        obtain ⟨zr39, hzr39, h⟩ := zb h
        refine zcV (pc := 157) (As := [.int x4, .int x5, .int x2, .int x3]) (rest := []) (st1 := []) (ws' := wM cy mq m_hosts m_lost m_late zr39.1 zr39.2 m_blocks m_sends m_many m_made m_madeMany m_lacking m_thrown m_now m_ahead m_then m_time m_timeThen m_isThere m_comes) (wr := []) (n := 4) (q0 := 0) X (c_X9_tie l G cy fu mq m_hosts m_lost m_late m_wait m_per m_blocks m_sends m_many m_made m_madeMany m_lacking m_thrown m_now m_ahead m_then m_time m_timeThen m_isThere m_comes x4 x5 x2 x3 zr39 hzr39) hH [0, 1, 2, 3, 4, 5, 6, 7, 8, 9, 10, 11, 12, 13, 14] [] [0, 1, 2, 3, 4, 5, 6, 7, 8, 9, 10, 11, 12, 13, 14] rfl rfl rfl rfl gX9_net_X9_tie rfl ⟨rfl, rfl⟩ kX9_tie ⟨Nat.le_of_ble_eq_true rfl, Nat.le_of_ble_eq_true rfl⟩ rfl rfl rfl rfl rfl hl.1 (Nat.le_of_ble_eq_true rfl) ⟨Nat.le_of_ble_eq_true rfl, Nat.le_of_ble_eq_true rfl⟩ dX9_net_157 (fun H locs hH => ?_)
        refine lv_iinc (pc := 160) (v := (x5 + 1)) (lv' := [(5, .int (x5 + 1)), (7, .int 1), (6, .int 1), (0, .ref (mq 0)), (1, .int x1), (2, .int x2), (3, .int x3), (4, .int x4)]) hx hb dX9_net_160 hl (k := 7) rfl (by rw [zk_c1]) (by decide) rfl (fun ls hl => ?_)
        refine lv_goto (pc := 163) (tgt := 56) hx hb dX9_net_163 rfl ?_
        exact ih (x5 + 1) zr39.1 zr39.2 rr h _ _ _ hH (lv_sub hl [3, 4, 5, 6, 7, 0] rfl) K0
      have h := zt zc32 h
      refine lv_iload (pc := 100) hx hb dX9_net_100 (lv_at hl 0 rfl) ?_
      refine lv_if_ne (pc := 102) (tgt := 138) hx hb dX9_net_102 rfl (fun zc40 => ?_) (fun zc40 => ?_)
      · refine lv_iconst (v := 1) (pc := 138) hx hb dX9_net_138 zk_c1 ?_
        refine lv_goto (pc := 139) (tgt := 143) hx hb dX9_net_139 rfl ?_
        refine lv_istore (pc := 143) (lv' := [(7, .int 1), (6, .int 1), (0, .ref (mq 0)), (1, .int x1), (2, .int x2), (3, .int x3), (4, .int x4), (5, .int x5)]) hx hb dX9_net_143 hl (by decide) rfl (fun ls hl => ?_)
        refine lv_iload (pc := 145) hx hb dX9_net_145 (lv_at hl 0 rfl) ?_
        refine lv_if_eq (pc := 147) (tgt := 160) hx hb dX9_net_147 rfl (fun zc41 => ?_) (fun zc41 => ?_)
        · exact absurd zc41 (by decide)
        refine lv_aload_n (pc := 150) hx hb dX9_net_150 rfl (lv_at hl 2 rfl) ?_
        refine lv_iload (pc := 151) hx hb dX9_net_151 (lv_at hl 6 rfl) ?_
        refine lv_iload (pc := 153) hx hb dX9_net_153 (lv_at hl 7 rfl) ?_
        refine lv_iload_n (pc := 155) hx hb dX9_net_155 rfl (lv_at hl 4 rfl) ?_
        refine lv_iload_n (pc := 156) hx hb dX9_net_156 rfl (lv_at hl 5 rfl) ?_
        obtain ⟨zr42, hzr42, h⟩ := zb h
        refine zcV (pc := 157) (As := [.int x4, .int x5, .int x2, .int x3]) (rest := []) (st1 := []) (ws' := wM cy mq m_hosts m_lost m_late zr42.1 zr42.2 m_blocks m_sends m_many m_made m_madeMany m_lacking m_thrown m_now m_ahead m_then m_time m_timeThen m_isThere m_comes) (wr := []) (n := 4) (q0 := 0) X (c_X9_tie l G cy fu mq m_hosts m_lost m_late m_wait m_per m_blocks m_sends m_many m_made m_madeMany m_lacking m_thrown m_now m_ahead m_then m_time m_timeThen m_isThere m_comes x4 x5 x2 x3 zr42 hzr42) hH [0, 1, 2, 3, 4, 5, 6, 7, 8, 9, 10, 11, 12, 13, 14] [] [0, 1, 2, 3, 4, 5, 6, 7, 8, 9, 10, 11, 12, 13, 14] rfl rfl rfl rfl gX9_net_X9_tie rfl ⟨rfl, rfl⟩ kX9_tie ⟨Nat.le_of_ble_eq_true rfl, Nat.le_of_ble_eq_true rfl⟩ rfl rfl rfl rfl rfl hl.1 (Nat.le_of_ble_eq_true rfl) ⟨Nat.le_of_ble_eq_true rfl, Nat.le_of_ble_eq_true rfl⟩ dX9_net_157 (fun H locs hH => ?_)
        refine lv_iinc (pc := 160) (v := (x5 + 1)) (lv' := [(5, .int (x5 + 1)), (7, .int 1), (6, .int 1), (0, .ref (mq 0)), (1, .int x1), (2, .int x2), (3, .int x3), (4, .int x4)]) hx hb dX9_net_160 hl (k := 7) rfl (by rw [zk_c1]) (by decide) rfl (fun ls hl => ?_)
        refine lv_goto (pc := 163) (tgt := 56) hx hb dX9_net_163 rfl ?_
        exact ih (x5 + 1) zr42.1 zr42.2 rr h _ _ _ hH (lv_sub hl [3, 4, 5, 6, 7, 0] rfl) K0
      exact absurd zc40 (by decide)
    have h := zt zc31 h
    refine lv_iload (pc := 91) hx hb dX9_net_91 (lv_at hl 0 rfl) ?_
    refine lv_if_ne (pc := 93) (tgt := 138) hx hb dX9_net_93 rfl (fun zc43 => ?_) (fun zc43 => ?_)
    · refine lv_iconst (v := 1) (pc := 138) hx hb dX9_net_138 zk_c1 ?_
      refine lv_goto (pc := 139) (tgt := 143) hx hb dX9_net_139 rfl ?_
      refine lv_istore (pc := 143) (lv' := [(7, .int 1), (6, .int 1), (0, .ref (mq 0)), (1, .int x1), (2, .int x2), (3, .int x3), (4, .int x4), (5, .int x5)]) hx hb dX9_net_143 hl (by decide) rfl (fun ls hl => ?_)
      refine lv_iload (pc := 145) hx hb dX9_net_145 (lv_at hl 0 rfl) ?_
      refine lv_if_eq (pc := 147) (tgt := 160) hx hb dX9_net_147 rfl (fun zc44 => ?_) (fun zc44 => ?_)
      · exact absurd zc44 (by decide)
      refine lv_aload_n (pc := 150) hx hb dX9_net_150 rfl (lv_at hl 2 rfl) ?_
      refine lv_iload (pc := 151) hx hb dX9_net_151 (lv_at hl 6 rfl) ?_
      refine lv_iload (pc := 153) hx hb dX9_net_153 (lv_at hl 7 rfl) ?_
      refine lv_iload_n (pc := 155) hx hb dX9_net_155 rfl (lv_at hl 4 rfl) ?_
      refine lv_iload_n (pc := 156) hx hb dX9_net_156 rfl (lv_at hl 5 rfl) ?_
      obtain ⟨zr45, hzr45, h⟩ := zb h
      refine zcV (pc := 157) (As := [.int x4, .int x5, .int x2, .int x3]) (rest := []) (st1 := []) (ws' := wM cy mq m_hosts m_lost m_late zr45.1 zr45.2 m_blocks m_sends m_many m_made m_madeMany m_lacking m_thrown m_now m_ahead m_then m_time m_timeThen m_isThere m_comes) (wr := []) (n := 4) (q0 := 0) X (c_X9_tie l G cy fu mq m_hosts m_lost m_late m_wait m_per m_blocks m_sends m_many m_made m_madeMany m_lacking m_thrown m_now m_ahead m_then m_time m_timeThen m_isThere m_comes x4 x5 x2 x3 zr45 hzr45) hH [0, 1, 2, 3, 4, 5, 6, 7, 8, 9, 10, 11, 12, 13, 14] [] [0, 1, 2, 3, 4, 5, 6, 7, 8, 9, 10, 11, 12, 13, 14] rfl rfl rfl rfl gX9_net_X9_tie rfl ⟨rfl, rfl⟩ kX9_tie ⟨Nat.le_of_ble_eq_true rfl, Nat.le_of_ble_eq_true rfl⟩ rfl rfl rfl rfl rfl hl.1 (Nat.le_of_ble_eq_true rfl) ⟨Nat.le_of_ble_eq_true rfl, Nat.le_of_ble_eq_true rfl⟩ dX9_net_157 (fun H locs hH => ?_)
      refine lv_iinc (pc := 160) (v := (x5 + 1)) (lv' := [(5, .int (x5 + 1)), (7, .int 1), (6, .int 1), (0, .ref (mq 0)), (1, .int x1), (2, .int x2), (3, .int x3), (4, .int x4)]) hx hb dX9_net_160 hl (k := 7) rfl (by rw [zk_c1]) (by decide) rfl (fun ls hl => ?_)
      refine lv_goto (pc := 163) (tgt := 56) hx hb dX9_net_163 rfl ?_
      exact ih (x5 + 1) zr45.1 zr45.2 rr h _ _ _ hH (lv_sub hl [3, 4, 5, 6, 7, 0] rfl) K0
    exact absurd zc43 (by decide)
set_option maxHeartbeats 4000000 in
set_option maxRecDepth 100000 in
theorem w_X9_net_l41 {p : Program} {l : Launch} {e : Env} {s : State} {m : MethodId} {args : Array Value} {below : List Frame} {meth : Method} {c : Code} {A : Nat → Prop} {Q : State → Prop} (G : va_G) (cy : Nat → ClassId) (fu : Nat) (mq : Nat → Nat) (m_hosts : Int32) (m_lost : Nat → Int32) (m_late : Nat → Int32) (m_blocks : Nat → Int32) (m_sends : Nat → Int32) (m_many : Int32) (m_made : Nat → Int32) (m_madeMany : Int32) (m_lacking : Int32) (m_thrown : Int32) (m_now : Nat → Int32) (m_ahead : Nat → Int32) (m_then : Nat → Int32) (m_time : Nat → Int32) (m_timeThen : Nat → Int32) (m_isThere : Nat → Int32) (m_comes : Nat → Int32) (x1 : Int32) (x2 : Int32) (x3 : Int32) (X : zX p s m args meth c RX9 cX9_net 8 wsX9_net G cy A) : ∀ (n : Nat) (x4 : Int32) (m_wait : Nat → Int32) (m_per : Nat → Int32) (rr : (Nat → Int32) × (Nat → Int32)) (h : lp (f_X9_net_l41 fu m_hosts x1 x2 x3) n (x4, m_wait, m_per) = some rr) (H : Heap) (locs : List Loc) (ls : Array Slot) (hH : zH G A s.heap (wM cy mq m_hosts m_lost m_late m_wait m_per m_blocks m_sends m_many m_made m_madeMany m_lacking m_thrown m_now m_ahead m_then m_time m_timeThen m_isThere m_comes) H locs) (hl : lv_has ls 8 [(0, .ref (mq 0)), (1, .int x1), (2, .int x2), (3, .int x3), (4, .int x4)]) (K0 : ∀ (H : Heap) (locs : List Loc) (ls : Array Slot), zH G A s.heap (wM cy mq m_hosts m_lost m_late rr.1 rr.2 m_blocks m_sends m_many m_made m_madeMany m_lacking m_thrown m_now m_ahead m_then m_time m_timeThen m_isThere m_comes) H locs → lv_has ls 8 [(0, .ref (mq 0))] → W p l e (zR 2 45) s m args below meth c H locs 0 0 Q (F0 m 172 ls [])), W p l e (zR 2 45) s m args below meth c H locs 0 0 Q (F0 m 41 ls []) := by
  have hx := X.1.1
  have hb := X.1.2.1
  intro n
  induction n with
  | zero => intro x4 m_wait m_per rr h H locs ls hH hl K0; cases h
  | succ n ih =>
    intro x4 m_wait m_per rr h H locs ls hH hl K0
    replace h : f_X9_net_l41 fu m_hosts x1 x2 x3 (lp (f_X9_net_l41 fu m_hosts x1 x2 x3) n) (x4, m_wait, m_per) = some rr := h
    dsimp only [f_X9_net_l41] at h
    refine lv_iload (pc := 41) hx hb dX9_net_41 (lv_at hl 4 rfl) ?_
    refine lv_aload_n (pc := 43) hx hb dX9_net_43 rfl (lv_at hl 0 rfl) ?_
    refine z_get (pc := 44) (v := .int m_hosts) X iX9_net_X9 hH 0 rfl rfl 0 rfl (List.mem_of_getElem? (i := 2) rfl) rfl dX9_net_44 ?_
    refine lv_icmp_ge (pc := 47) (tgt := 172) hx hb dX9_net_47 rfl (fun zc1 => ?_) (fun zc1 => ?_)
    · have h := zt zc1 h
      obtain rfl := Option.some.inj h
      exact K0 _ _ _ hH (lv_sub hl [0] rfl)
    have h := zf zc1 h
    refine lv_iload (pc := 50) hx hb dX9_net_50 (lv_at hl 4 rfl) ?_
    refine lv_iconst (v := 1) (pc := 52) hx hb dX9_net_52 zk_c1 ?_
    refine lv_iadd (pc := 53) hx hb dX9_net_53 ?_
    refine lv_topi (fun za2 eza2 => ?_)
    have h := vn_s h za2 eza2
    refine lv_istore (pc := 54) (lv' := [(5, .int za2), (0, .ref (mq 0)), (1, .int x1), (2, .int x2), (3, .int x3), (4, .int x4)]) hx hb dX9_net_54 hl (by decide) rfl (fun ls hl => ?_)
    obtain ⟨zr3, hzr3, h⟩ := zb h
    refine w_X9_net_l56 G cy fu mq m_hosts m_lost m_late m_blocks m_sends m_many m_made m_madeMany m_lacking m_thrown m_now m_ahead m_then m_time m_timeThen m_isThere m_comes x1 x2 x3 x4 X fu za2 m_wait m_per zr3 hzr3 _ _ _ hH (lv_sub hl [1, 2, 3, 4, 5, 0] rfl) (fun H locs ls hH hl => ?_)
    refine lv_iinc (pc := 166) (v := (x4 + 1)) (lv' := [(4, .int (x4 + 1)), (0, .ref (mq 0)), (1, .int x1), (2, .int x2), (3, .int x3)]) hx hb dX9_net_166 hl (k := 4) rfl (by rw [zk_c1]) (by decide) rfl (fun ls hl => ?_)
    refine lv_goto (pc := 169) (tgt := 41) hx hb dX9_net_169 rfl ?_
    exact ih (x4 + 1) zr3.1 zr3.2 rr h _ _ _ hH (lv_sub hl [1, 2, 3, 4, 0] rfl) K0
set_option maxHeartbeats 4000000 in
set_option maxRecDepth 100000 in
theorem c_X9_net (l : Launch) (G : va_G) (cy : Nat → ClassId) (fu : Nat) (mq : Nat → Nat) (m_hosts : Int32) (m_lost : Nat → Int32) (m_late : Nat → Int32) (m_wait : Nat → Int32) (m_per : Nat → Int32) (m_blocks : Nat → Int32) (m_sends : Nat → Int32) (m_many : Int32) (m_made : Nat → Int32) (m_madeMany : Int32) (m_lacking : Int32) (m_thrown : Int32) (m_now : Nat → Int32) (m_ahead : Nat → Int32) (m_then : Nat → Int32) (m_time : Nat → Int32) (m_timeThen : Nat → Int32) (m_isThere : Nat → Int32) (m_comes : Nat → Int32) (x1 : Int32) (x2 : Int32) (x3 : Int32) (rr : Int32 × (Nat → Int32) × (Nat → Int32) × Int32 × Int32) (h : f_X9_net fu m_hosts m_wait m_per m_many x1 x2 x3 = some rr) : zM l G cy yX9_net wsX9_net (zR 2 45) [.ref (mq 0), .int x1, .int x2, .int x3] (wM cy mq m_hosts m_lost m_late m_wait m_per m_blocks m_sends m_many m_made m_madeMany m_lacking m_thrown m_now m_ahead m_then m_time m_timeThen m_isThere m_comes) (wM cy mq m_hosts m_lost m_late rr.2.1 rr.2.2.1 m_blocks m_sends rr.2.2.2.1 m_made m_madeMany m_lacking rr.2.2.2.2 m_now m_ahead m_then m_time m_timeThen m_isThere m_comes) (some (.int rr.1)) := by
  refine zM.mk (cc := cX9_net) (nL := 8) (ret := (some .int)) (by decide) rfl (Nat.le_of_ble_eq_true rfl) ?_
  intro p e s m below meth c A ls X hr hH hl
  replace X : zX p s m [.ref (mq 0), .int x1, .int x2, .int x3].toArray meth c RX9 cX9_net 8 wsX9_net G cy A := X
  have hx := X.1.1
  have hb := X.1.2.1
  replace hl : lv_has ls 8 [(0, .ref (mq 0)), (1, .int x1), (2, .int x2), (3, .int x3)] := hl
  dsimp only [f_X9_net] at h
  refine lv_aload_n (pc := 0) hx hb dX9_net_0 rfl (lv_at hl 0 rfl) ?_
  refine lv_iconst (v := 0) (pc := 1) hx hb dX9_net_1 zk_c0 ?_
  refine z_put (pc := 2) (v := .int 0) (ws' := wM cy mq m_hosts m_lost m_late m_wait m_per m_blocks m_sends m_many m_made m_madeMany m_lacking 0 m_now m_ahead m_then m_time m_timeThen m_isThere m_comes) X iX9_net_X9 tyX9 tyX9_ok nmX9 hH 0 rfl rfl 11 rfl (List.mem_of_getElem? (i := 1) rfl) rfl rfl rfl rfl rfl dX9_net_2 (fun H locs hH => ?_)
  refine lv_iload_n (pc := 5) hx hb dX9_net_5 rfl (lv_at hl 1 rfl) ?_
  refine lv_iconst (v := 0) (pc := 6) hx hb dX9_net_6 zk_c0 ?_
  refine lv_iconst (v := 3) (pc := 7) hx hb dX9_net_7 zk_c3 ?_
  obtain ⟨zr1, hzr1, h⟩ := zb h
  refine zcS (pc := 8) (As := [.int x1, .int 0, .int 3]) (rest := []) (st1 := [.int zr1]) (ws' := wM cy mq m_hosts m_lost m_late m_wait m_per m_blocks m_sends m_many m_made m_madeMany m_lacking 0 m_now m_ahead m_then m_time m_timeThen m_isThere m_comes) (wr := [((mq 0), .inr (8, [.int m_hosts, .ref (mq 1), .ref (mq 2), .ref (mq 3), .ref (mq 4), .ref (mq 5), .ref (mq 6), .int m_many, .ref (mq 7), .int m_madeMany, .int m_lacking, .int 0, .ref (mq 8), .ref (mq 9), .ref (mq 10), .ref (mq 11), .ref (mq 12), .ref (mq 13), .ref (mq 14)])), ((mq 1), .inl (cy 2, 16, .inl m_lost)), ((mq 2), .inl (cy 0, 16, .inl m_late)), ((mq 3), .inl (cy 0, 256, .inl m_wait)), ((mq 4), .inl (cy 0, 256, .inl m_per)), ((mq 5), .inl (cy 0, 256, .inl m_blocks)), ((mq 6), .inl (cy 0, 7200, .inl m_sends)), ((mq 7), .inl (cy 0, 7200, .inl m_made)), ((mq 8), .inl (cy 3, 65536, .inl m_now)), ((mq 9), .inl (cy 3, 65536, .inl m_ahead)), ((mq 10), .inl (cy 0, 256, .inl m_then)), ((mq 11), .inl (cy 0, 16, .inl m_time)), ((mq 12), .inl (cy 0, 16, .inl m_timeThen)), ((mq 13), .inl (cy 2, 256, .inl m_isThere)), ((mq 14), .inl (cy 2, 256, .inl m_comes))]) (n := 3) X (c_X9_in l G cy fu x1 0 3 zr1 hzr1) hH [] [0, 1, 2, 3, 4, 5, 6, 7, 8, 9, 10, 11, 12, 13, 14] [0, 1, 2, 3, 4, 5, 6, 7, 8, 9, 10, 11, 12, 13, 14] rfl rfl rfl rfl gX9_net_X9_in rfl ⟨rfl, rfl⟩ kX9_in ⟨Nat.le_of_ble_eq_true rfl, Nat.le_of_ble_eq_true rfl⟩ rfl rfl rfl hl.1 (Nat.le_of_ble_eq_true rfl) ⟨Nat.le_of_ble_eq_true rfl, Nat.le_of_ble_eq_true rfl⟩ dX9_net_8 (fun H locs hH => ?_)
  refine lv_if_eq (pc := 11) (tgt := 36) hx hb dX9_net_11 rfl (fun zc2 => ?_) (fun zc2 => ?_)
  · have h := zt zc2 h
    refine lv_iconst (v := (-1)) (pc := 36) hx hb dX9_net_36 zk_cm1 ?_
    obtain rfl := Option.some.inj h
    exact z_iret X hr hH dX9_net_37
  have h := zf zc2 h
  refine lv_iload_n (pc := 14) hx hb dX9_net_14 rfl (lv_at hl 2 rfl) ?_
  refine lv_iconst (v := 0) (pc := 15) hx hb dX9_net_15 zk_c0 ?_
  refine lv_sipush (v := 1000) (pc := 16) hx hb dX9_net_16 zk_s1000 ?_
  obtain ⟨zr3, hzr3, h⟩ := zb h
  refine zcS (pc := 19) (As := [.int x2, .int 0, .int 1000]) (rest := []) (st1 := [.int zr3]) (ws' := wM cy mq m_hosts m_lost m_late m_wait m_per m_blocks m_sends m_many m_made m_madeMany m_lacking 0 m_now m_ahead m_then m_time m_timeThen m_isThere m_comes) (wr := [((mq 0), .inr (8, [.int m_hosts, .ref (mq 1), .ref (mq 2), .ref (mq 3), .ref (mq 4), .ref (mq 5), .ref (mq 6), .int m_many, .ref (mq 7), .int m_madeMany, .int m_lacking, .int 0, .ref (mq 8), .ref (mq 9), .ref (mq 10), .ref (mq 11), .ref (mq 12), .ref (mq 13), .ref (mq 14)])), ((mq 1), .inl (cy 2, 16, .inl m_lost)), ((mq 2), .inl (cy 0, 16, .inl m_late)), ((mq 3), .inl (cy 0, 256, .inl m_wait)), ((mq 4), .inl (cy 0, 256, .inl m_per)), ((mq 5), .inl (cy 0, 256, .inl m_blocks)), ((mq 6), .inl (cy 0, 7200, .inl m_sends)), ((mq 7), .inl (cy 0, 7200, .inl m_made)), ((mq 8), .inl (cy 3, 65536, .inl m_now)), ((mq 9), .inl (cy 3, 65536, .inl m_ahead)), ((mq 10), .inl (cy 0, 256, .inl m_then)), ((mq 11), .inl (cy 0, 16, .inl m_time)), ((mq 12), .inl (cy 0, 16, .inl m_timeThen)), ((mq 13), .inl (cy 2, 256, .inl m_isThere)), ((mq 14), .inl (cy 2, 256, .inl m_comes))]) (n := 3) X (c_X9_in l G cy fu x2 0 1000 zr3 hzr3) hH [] [0, 1, 2, 3, 4, 5, 6, 7, 8, 9, 10, 11, 12, 13, 14] [0, 1, 2, 3, 4, 5, 6, 7, 8, 9, 10, 11, 12, 13, 14] rfl rfl rfl rfl gX9_net_X9_in rfl ⟨rfl, rfl⟩ kX9_in ⟨Nat.le_of_ble_eq_true rfl, Nat.le_of_ble_eq_true rfl⟩ rfl rfl rfl hl.1 (Nat.le_of_ble_eq_true rfl) ⟨Nat.le_of_ble_eq_true rfl, Nat.le_of_ble_eq_true rfl⟩ dX9_net_19 (fun H locs hH => ?_)
  refine lv_if_eq (pc := 22) (tgt := 36) hx hb dX9_net_22 rfl (fun zc4 => ?_) (fun zc4 => ?_)
  · have h := zt zc4 h
    refine lv_iconst (v := (-1)) (pc := 36) hx hb dX9_net_36 zk_cm1 ?_
    obtain rfl := Option.some.inj h
    exact z_iret X hr hH dX9_net_37
  have h := zf zc4 h
  refine lv_iload_n (pc := 25) hx hb dX9_net_25 rfl (lv_at hl 3 rfl) ?_
  refine lv_iconst (v := 1) (pc := 26) hx hb dX9_net_26 zk_c1 ?_
  refine lv_sipush (v := 1000) (pc := 27) hx hb dX9_net_27 zk_s1000 ?_
  obtain ⟨zr5, hzr5, h⟩ := zb h
  refine zcS (pc := 30) (As := [.int x3, .int 1, .int 1000]) (rest := []) (st1 := [.int zr5]) (ws' := wM cy mq m_hosts m_lost m_late m_wait m_per m_blocks m_sends m_many m_made m_madeMany m_lacking 0 m_now m_ahead m_then m_time m_timeThen m_isThere m_comes) (wr := [((mq 0), .inr (8, [.int m_hosts, .ref (mq 1), .ref (mq 2), .ref (mq 3), .ref (mq 4), .ref (mq 5), .ref (mq 6), .int m_many, .ref (mq 7), .int m_madeMany, .int m_lacking, .int 0, .ref (mq 8), .ref (mq 9), .ref (mq 10), .ref (mq 11), .ref (mq 12), .ref (mq 13), .ref (mq 14)])), ((mq 1), .inl (cy 2, 16, .inl m_lost)), ((mq 2), .inl (cy 0, 16, .inl m_late)), ((mq 3), .inl (cy 0, 256, .inl m_wait)), ((mq 4), .inl (cy 0, 256, .inl m_per)), ((mq 5), .inl (cy 0, 256, .inl m_blocks)), ((mq 6), .inl (cy 0, 7200, .inl m_sends)), ((mq 7), .inl (cy 0, 7200, .inl m_made)), ((mq 8), .inl (cy 3, 65536, .inl m_now)), ((mq 9), .inl (cy 3, 65536, .inl m_ahead)), ((mq 10), .inl (cy 0, 256, .inl m_then)), ((mq 11), .inl (cy 0, 16, .inl m_time)), ((mq 12), .inl (cy 0, 16, .inl m_timeThen)), ((mq 13), .inl (cy 2, 256, .inl m_isThere)), ((mq 14), .inl (cy 2, 256, .inl m_comes))]) (n := 3) X (c_X9_in l G cy fu x3 1 1000 zr5 hzr5) hH [] [0, 1, 2, 3, 4, 5, 6, 7, 8, 9, 10, 11, 12, 13, 14] [0, 1, 2, 3, 4, 5, 6, 7, 8, 9, 10, 11, 12, 13, 14] rfl rfl rfl rfl gX9_net_X9_in rfl ⟨rfl, rfl⟩ kX9_in ⟨Nat.le_of_ble_eq_true rfl, Nat.le_of_ble_eq_true rfl⟩ rfl rfl rfl hl.1 (Nat.le_of_ble_eq_true rfl) ⟨Nat.le_of_ble_eq_true rfl, Nat.le_of_ble_eq_true rfl⟩ dX9_net_30 (fun H locs hH => ?_)
  refine lv_if_ne (pc := 33) (tgt := 38) hx hb dX9_net_33 rfl (fun zc6 => ?_) (fun zc6 => ?_)
  · have h := zf zc6 h
    refine lv_iconst (v := 0) (pc := 38) hx hb dX9_net_38 zk_c0 ?_
    refine lv_istore (pc := 39) (lv' := [(4, .int 0), (0, .ref (mq 0)), (1, .int x1), (2, .int x2), (3, .int x3)]) hx hb dX9_net_39 hl (by decide) rfl (fun ls hl => ?_)
    obtain ⟨zr7, hzr7, h⟩ := zb h
    refine w_X9_net_l41 G cy fu mq m_hosts m_lost m_late m_blocks m_sends m_many m_made m_madeMany m_lacking 0 m_now m_ahead m_then m_time m_timeThen m_isThere m_comes x1 x2 x3 X fu 0 m_wait m_per zr7 hzr7 _ _ _ hH (lv_sub hl [1, 2, 3, 4, 0] rfl) (fun H locs ls hH hl => ?_)
    refine lv_aload_n (pc := 172) hx hb dX9_net_172 rfl (lv_at hl 0 rfl) ?_
    refine lv_iconst (v := 0) (pc := 173) hx hb dX9_net_173 zk_c0 ?_
    refine z_put (pc := 174) (v := .int 0) (ws' := wM cy mq m_hosts m_lost m_late zr7.1 zr7.2 m_blocks m_sends 0 m_made m_madeMany m_lacking 0 m_now m_ahead m_then m_time m_timeThen m_isThere m_comes) X iX9_net_X9 tyX9 tyX9_ok nmX9 hH 0 rfl rfl 7 rfl (List.mem_of_getElem? (i := 3) rfl) rfl rfl rfl rfl rfl dX9_net_174 (fun H locs hH => ?_)
    refine lv_aload_n (pc := 177) hx hb dX9_net_177 rfl (lv_at hl 0 rfl) ?_
    obtain ⟨zr8, hzr8, h⟩ := zb h
    refine zcV (pc := 178) (As := []) (rest := []) (st1 := [.int zr8]) (ws' := wM cy mq m_hosts m_lost m_late zr7.1 zr7.2 m_blocks m_sends 0 m_made m_madeMany m_lacking 0 m_now m_ahead m_then m_time m_timeThen m_isThere m_comes) (wr := []) (n := 0) (q0 := 0) X (c_X9_lines l G cy fu mq m_hosts m_lost m_late zr7.1 zr7.2 m_blocks m_sends 0 m_made m_madeMany m_lacking 0 m_now m_ahead m_then m_time m_timeThen m_isThere m_comes zr8 hzr8) hH [0, 1, 2, 3, 4, 5, 6, 7, 8, 9, 10, 11, 12, 13, 14] [] [0, 1, 2, 3, 4, 5, 6, 7, 8, 9, 10, 11, 12, 13, 14] rfl rfl rfl rfl gX9_net_X9_lines rfl ⟨rfl, rfl⟩ kX9_lines ⟨Nat.le_of_ble_eq_true rfl, Nat.le_of_ble_eq_true rfl⟩ rfl rfl rfl rfl rfl hl.1 (Nat.le_of_ble_eq_true rfl) ⟨Nat.le_of_ble_eq_true rfl, Nat.le_of_ble_eq_true rfl⟩ dX9_net_178 (fun H locs hH => ?_)
    obtain rfl := Option.some.inj h
    exact z_iret X hr hH dX9_net_181
  have h := zt zc6 h
  refine lv_iconst (v := (-1)) (pc := 36) hx hb dX9_net_36 zk_cm1 ?_
  obtain rfl := Option.some.inj h
  exact z_iret X hr hH dX9_net_37
set_option maxHeartbeats 4000000 in
set_option maxRecDepth 100000 in
theorem c_X9_set (l : Launch) (G : va_G) (cy : Nat → ClassId) (fu : Nat) (mq : Nat → Nat) (m_hosts : Int32) (m_lost : Nat → Int32) (m_late : Nat → Int32) (m_wait : Nat → Int32) (m_per : Nat → Int32) (m_blocks : Nat → Int32) (m_sends : Nat → Int32) (m_many : Int32) (m_made : Nat → Int32) (m_madeMany : Int32) (m_lacking : Int32) (m_thrown : Int32) (m_now : Nat → Int32) (m_ahead : Nat → Int32) (m_then : Nat → Int32) (m_time : Nat → Int32) (m_timeThen : Nat → Int32) (m_isThere : Nat → Int32) (m_comes : Nat → Int32) (x1 : Int32) (x2 : Int32) (x3 : Int32) (rr : Int32 × (Nat → Int32) × Int32) (h : f_X9_set fu m_hosts m_blocks x1 x2 x3 = some rr) : zM l G cy yX9_set wsX9_set (zR 2 43) [.ref (mq 0), .int x1, .int x2, .int x3] (wM cy mq m_hosts m_lost m_late m_wait m_per m_blocks m_sends m_many m_made m_madeMany m_lacking m_thrown m_now m_ahead m_then m_time m_timeThen m_isThere m_comes) (wM cy mq m_hosts m_lost m_late m_wait m_per rr.2.1 m_sends m_many m_made m_madeMany m_lacking rr.2.2 m_now m_ahead m_then m_time m_timeThen m_isThere m_comes) (some (.int rr.1)) := by
  refine zM.mk (cc := cX9_set) (nL := 4) (ret := (some .boolean)) (by decide) rfl (Nat.le_of_ble_eq_true rfl) ?_
  intro p e s m below meth c A ls X hr hH hl
  replace X : zX p s m [.ref (mq 0), .int x1, .int x2, .int x3].toArray meth c RX9 cX9_set 4 wsX9_set G cy A := X
  have hx := X.1.1
  have hb := X.1.2.1
  replace hl : lv_has ls 4 [(0, .ref (mq 0)), (1, .int x1), (2, .int x2), (3, .int x3)] := hl
  dsimp only [f_X9_set] at h
  refine lv_aload_n (pc := 0) hx hb dX9_set_0 rfl (lv_at hl 0 rfl) ?_
  refine lv_iconst (v := 0) (pc := 1) hx hb dX9_set_1 zk_c0 ?_
  refine z_put (pc := 2) (v := .int 0) (ws' := wM cy mq m_hosts m_lost m_late m_wait m_per m_blocks m_sends m_many m_made m_madeMany m_lacking 0 m_now m_ahead m_then m_time m_timeThen m_isThere m_comes) X iX9_set_X9 tyX9 tyX9_ok nmX9 hH 0 rfl rfl 11 rfl (List.mem_of_getElem? (i := 1) rfl) rfl rfl rfl rfl rfl dX9_set_2 (fun H locs hH => ?_)
  refine lv_aload_n (pc := 5) hx hb dX9_set_5 rfl (lv_at hl 0 rfl) ?_
  refine lv_iload_n (pc := 6) hx hb dX9_set_6 rfl (lv_at hl 1 rfl) ?_
  obtain ⟨zr1, hzr1, h⟩ := zb h
  refine zcV (pc := 7) (As := [.int x1]) (rest := []) (st1 := [.int zr1]) (ws' := wM cy mq m_hosts m_lost m_late m_wait m_per m_blocks m_sends m_many m_made m_madeMany m_lacking 0 m_now m_ahead m_then m_time m_timeThen m_isThere m_comes) (wr := []) (n := 1) (q0 := 0) X (c_X9_isHost l G cy fu mq m_hosts m_lost m_late m_wait m_per m_blocks m_sends m_many m_made m_madeMany m_lacking 0 m_now m_ahead m_then m_time m_timeThen m_isThere m_comes x1 zr1 hzr1) hH [0, 1, 2, 3, 4, 5, 6, 7, 8, 9, 10, 11, 12, 13, 14] [] [0, 1, 2, 3, 4, 5, 6, 7, 8, 9, 10, 11, 12, 13, 14] rfl rfl rfl rfl gX9_set_X9_isHost rfl ⟨rfl, rfl⟩ kX9_isHost ⟨Nat.le_of_ble_eq_true rfl, Nat.le_of_ble_eq_true rfl⟩ rfl rfl rfl rfl rfl hl.1 (Nat.le_of_ble_eq_true rfl) ⟨Nat.le_of_ble_eq_true rfl, Nat.le_of_ble_eq_true rfl⟩ dX9_set_7 (fun H locs hH => ?_)
  refine lv_if_eq (pc := 10) (tgt := 23) hx hb dX9_set_10 rfl (fun zc2 => ?_) (fun zc2 => ?_)
  · have h := zt zc2 h
    refine lv_iconst (v := 0) (pc := 23) hx hb dX9_set_23 zk_c0 ?_
    obtain rfl := Option.some.inj h
    exact z_zret X hr (Or.inl rfl) hH dX9_set_24
  have h := zf zc2 h
  refine lv_iload_n (pc := 13) hx hb dX9_set_13 rfl (lv_at hl 2 rfl) ?_
  refine lv_iconst (v := 0) (pc := 14) hx hb dX9_set_14 zk_c0 ?_
  refine lv_bipush (v := 15) (pc := 15) hx hb dX9_set_15 zk_b15 ?_
  obtain ⟨zr3, hzr3, h⟩ := zb h
  refine zcS (pc := 17) (As := [.int x2, .int 0, .int 15]) (rest := []) (st1 := [.int zr3]) (ws' := wM cy mq m_hosts m_lost m_late m_wait m_per m_blocks m_sends m_many m_made m_madeMany m_lacking 0 m_now m_ahead m_then m_time m_timeThen m_isThere m_comes) (wr := [((mq 0), .inr (8, [.int m_hosts, .ref (mq 1), .ref (mq 2), .ref (mq 3), .ref (mq 4), .ref (mq 5), .ref (mq 6), .int m_many, .ref (mq 7), .int m_madeMany, .int m_lacking, .int 0, .ref (mq 8), .ref (mq 9), .ref (mq 10), .ref (mq 11), .ref (mq 12), .ref (mq 13), .ref (mq 14)])), ((mq 1), .inl (cy 2, 16, .inl m_lost)), ((mq 2), .inl (cy 0, 16, .inl m_late)), ((mq 3), .inl (cy 0, 256, .inl m_wait)), ((mq 4), .inl (cy 0, 256, .inl m_per)), ((mq 5), .inl (cy 0, 256, .inl m_blocks)), ((mq 6), .inl (cy 0, 7200, .inl m_sends)), ((mq 7), .inl (cy 0, 7200, .inl m_made)), ((mq 8), .inl (cy 3, 65536, .inl m_now)), ((mq 9), .inl (cy 3, 65536, .inl m_ahead)), ((mq 10), .inl (cy 0, 256, .inl m_then)), ((mq 11), .inl (cy 0, 16, .inl m_time)), ((mq 12), .inl (cy 0, 16, .inl m_timeThen)), ((mq 13), .inl (cy 2, 256, .inl m_isThere)), ((mq 14), .inl (cy 2, 256, .inl m_comes))]) (n := 3) X (c_X9_in l G cy fu x2 0 15 zr3 hzr3) hH [] [0, 1, 2, 3, 4, 5, 6, 7, 8, 9, 10, 11, 12, 13, 14] [0, 1, 2, 3, 4, 5, 6, 7, 8, 9, 10, 11, 12, 13, 14] rfl rfl rfl rfl gX9_set_X9_in rfl ⟨rfl, rfl⟩ kX9_in ⟨Nat.le_of_ble_eq_true rfl, Nat.le_of_ble_eq_true rfl⟩ rfl rfl rfl hl.1 (Nat.le_of_ble_eq_true rfl) ⟨Nat.le_of_ble_eq_true rfl, Nat.le_of_ble_eq_true rfl⟩ dX9_set_17 (fun H locs hH => ?_)
  refine lv_if_ne (pc := 20) (tgt := 25) hx hb dX9_set_20 rfl (fun zc4 => ?_) (fun zc4 => ?_)
  · have h := zf zc4 h
    refine lv_aload_n (pc := 25) hx hb dX9_set_25 rfl (lv_at hl 0 rfl) ?_
    refine z_get (pc := 26) (v := .ref (mq 5)) X iX9_set_X9 hH 0 rfl rfl 5 rfl (List.mem_of_getElem? (i := 2) rfl) rfl dX9_set_26 ?_
    refine lv_bipush (v := 16) (pc := 29) hx hb dX9_set_29 zk_b16 ?_
    refine lv_iload_n (pc := 31) hx hb dX9_set_31 rfl (lv_at hl 1 rfl) ?_
    refine lv_imul (pc := 32) hx hb dX9_set_32 ?_
    refine lv_iload_n (pc := 33) hx hb dX9_set_33 rfl (lv_at hl 2 rfl) ?_
    refine lv_iadd (pc := 34) hx hb dX9_set_34 ?_
    refine lv_iload_n (pc := 35) hx hb dX9_set_35 rfl (lv_at hl 3 rfl) ?_
    obtain ⟨hin, h⟩ := zg h
    refine z_iast (pc := 36) (ws' := wM cy mq m_hosts m_lost m_late m_wait m_per (upd m_blocks (((16 * x1) + x2)).toNatClampNeg x3) m_sends m_many m_made m_madeMany m_lacking 0 m_now m_ahead m_then m_time m_timeThen m_isThere m_comes) X hH 5 rfl hin rfl dX9_set_36 (fun H locs hH => ?_)
    refine lv_iconst (v := 1) (pc := 37) hx hb dX9_set_37 zk_c1 ?_
    obtain rfl := Option.some.inj h
    exact z_zret X hr (Or.inr rfl) hH dX9_set_38
  have h := zt zc4 h
  refine lv_iconst (v := 0) (pc := 23) hx hb dX9_set_23 zk_c0 ?_
  obtain rfl := Option.some.inj h
  exact z_zret X hr (Or.inl rfl) hH dX9_set_24
set_option maxHeartbeats 4000000 in
set_option maxRecDepth 100000 in
theorem c_X9_at (l : Launch) (G : va_G) (cy : Nat → ClassId) (fu : Nat) (mq : Nat → Nat) (m_hosts : Int32) (m_lost : Nat → Int32) (m_late : Nat → Int32) (m_wait : Nat → Int32) (m_per : Nat → Int32) (m_blocks : Nat → Int32) (m_sends : Nat → Int32) (m_many : Int32) (m_made : Nat → Int32) (m_madeMany : Int32) (m_lacking : Int32) (m_thrown : Int32) (m_now : Nat → Int32) (m_ahead : Nat → Int32) (m_then : Nat → Int32) (m_time : Nat → Int32) (m_timeThen : Nat → Int32) (m_isThere : Nat → Int32) (m_comes : Nat → Int32) (x1 : Int32) (x2 : Int32) (rr : Int32 × Int32) (h : f_X9_at fu m_hosts m_blocks x1 x2 = some rr) : zM l G cy yX9_at wsX9_at (zR 2 43) [.ref (mq 0), .int x1, .int x2] (wM cy mq m_hosts m_lost m_late m_wait m_per m_blocks m_sends m_many m_made m_madeMany m_lacking m_thrown m_now m_ahead m_then m_time m_timeThen m_isThere m_comes) (wM cy mq m_hosts m_lost m_late m_wait m_per m_blocks m_sends m_many m_made m_madeMany m_lacking rr.2 m_now m_ahead m_then m_time m_timeThen m_isThere m_comes) (some (.int rr.1)) := by
  refine zM.mk (cc := cX9_at) (nL := 3) (ret := (some .int)) (by decide) rfl (Nat.le_of_ble_eq_true rfl) ?_
  intro p e s m below meth c A ls X hr hH hl
  replace X : zX p s m [.ref (mq 0), .int x1, .int x2].toArray meth c RX9 cX9_at 3 wsX9_at G cy A := X
  have hx := X.1.1
  have hb := X.1.2.1
  replace hl : lv_has ls 3 [(0, .ref (mq 0)), (1, .int x1), (2, .int x2)] := hl
  dsimp only [f_X9_at] at h
  refine lv_aload_n (pc := 0) hx hb dX9_at_0 rfl (lv_at hl 0 rfl) ?_
  refine lv_iconst (v := 0) (pc := 1) hx hb dX9_at_1 zk_c0 ?_
  refine z_put (pc := 2) (v := .int 0) (ws' := wM cy mq m_hosts m_lost m_late m_wait m_per m_blocks m_sends m_many m_made m_madeMany m_lacking 0 m_now m_ahead m_then m_time m_timeThen m_isThere m_comes) X iX9_at_X9 tyX9 tyX9_ok nmX9 hH 0 rfl rfl 11 rfl (List.mem_of_getElem? (i := 1) rfl) rfl rfl rfl rfl rfl dX9_at_2 (fun H locs hH => ?_)
  refine lv_aload_n (pc := 5) hx hb dX9_at_5 rfl (lv_at hl 0 rfl) ?_
  refine lv_iload_n (pc := 6) hx hb dX9_at_6 rfl (lv_at hl 1 rfl) ?_
  obtain ⟨zr1, hzr1, h⟩ := zb h
  refine zcV (pc := 7) (As := [.int x1]) (rest := []) (st1 := [.int zr1]) (ws' := wM cy mq m_hosts m_lost m_late m_wait m_per m_blocks m_sends m_many m_made m_madeMany m_lacking 0 m_now m_ahead m_then m_time m_timeThen m_isThere m_comes) (wr := []) (n := 1) (q0 := 0) X (c_X9_isHost l G cy fu mq m_hosts m_lost m_late m_wait m_per m_blocks m_sends m_many m_made m_madeMany m_lacking 0 m_now m_ahead m_then m_time m_timeThen m_isThere m_comes x1 zr1 hzr1) hH [0, 1, 2, 3, 4, 5, 6, 7, 8, 9, 10, 11, 12, 13, 14] [] [0, 1, 2, 3, 4, 5, 6, 7, 8, 9, 10, 11, 12, 13, 14] rfl rfl rfl rfl gX9_at_X9_isHost rfl ⟨rfl, rfl⟩ kX9_isHost ⟨Nat.le_of_ble_eq_true rfl, Nat.le_of_ble_eq_true rfl⟩ rfl rfl rfl rfl rfl hl.1 (Nat.le_of_ble_eq_true rfl) ⟨Nat.le_of_ble_eq_true rfl, Nat.le_of_ble_eq_true rfl⟩ dX9_at_7 (fun H locs hH => ?_)
  refine lv_if_eq (pc := 10) (tgt := 23) hx hb dX9_at_10 rfl (fun zc2 => ?_) (fun zc2 => ?_)
  · have h := zt zc2 h
    refine lv_aload_n (pc := 23) hx hb dX9_at_23 rfl (lv_at hl 0 rfl) ?_
    refine lv_iconst (v := 1) (pc := 24) hx hb dX9_at_24 zk_c1 ?_
    refine z_put (pc := 25) (v := .int 1) (ws' := wM cy mq m_hosts m_lost m_late m_wait m_per m_blocks m_sends m_many m_made m_madeMany m_lacking 1 m_now m_ahead m_then m_time m_timeThen m_isThere m_comes) X iX9_at_X9 tyX9 tyX9_ok nmX9 hH 0 rfl rfl 11 rfl (List.mem_of_getElem? (i := 1) rfl) rfl rfl rfl rfl rfl dX9_at_25 (fun H locs hH => ?_)
    refine lv_iconst (v := 0) (pc := 28) hx hb dX9_at_28 zk_c0 ?_
    obtain rfl := Option.some.inj h
    exact z_iret X hr hH dX9_at_29
  have h := zf zc2 h
  refine lv_iload_n (pc := 13) hx hb dX9_at_13 rfl (lv_at hl 2 rfl) ?_
  refine lv_iconst (v := 0) (pc := 14) hx hb dX9_at_14 zk_c0 ?_
  refine lv_bipush (v := 15) (pc := 15) hx hb dX9_at_15 zk_b15 ?_
  obtain ⟨zr3, hzr3, h⟩ := zb h
  refine zcS (pc := 17) (As := [.int x2, .int 0, .int 15]) (rest := []) (st1 := [.int zr3]) (ws' := wM cy mq m_hosts m_lost m_late m_wait m_per m_blocks m_sends m_many m_made m_madeMany m_lacking 0 m_now m_ahead m_then m_time m_timeThen m_isThere m_comes) (wr := [((mq 0), .inr (8, [.int m_hosts, .ref (mq 1), .ref (mq 2), .ref (mq 3), .ref (mq 4), .ref (mq 5), .ref (mq 6), .int m_many, .ref (mq 7), .int m_madeMany, .int m_lacking, .int 0, .ref (mq 8), .ref (mq 9), .ref (mq 10), .ref (mq 11), .ref (mq 12), .ref (mq 13), .ref (mq 14)])), ((mq 1), .inl (cy 2, 16, .inl m_lost)), ((mq 2), .inl (cy 0, 16, .inl m_late)), ((mq 3), .inl (cy 0, 256, .inl m_wait)), ((mq 4), .inl (cy 0, 256, .inl m_per)), ((mq 5), .inl (cy 0, 256, .inl m_blocks)), ((mq 6), .inl (cy 0, 7200, .inl m_sends)), ((mq 7), .inl (cy 0, 7200, .inl m_made)), ((mq 8), .inl (cy 3, 65536, .inl m_now)), ((mq 9), .inl (cy 3, 65536, .inl m_ahead)), ((mq 10), .inl (cy 0, 256, .inl m_then)), ((mq 11), .inl (cy 0, 16, .inl m_time)), ((mq 12), .inl (cy 0, 16, .inl m_timeThen)), ((mq 13), .inl (cy 2, 256, .inl m_isThere)), ((mq 14), .inl (cy 2, 256, .inl m_comes))]) (n := 3) X (c_X9_in l G cy fu x2 0 15 zr3 hzr3) hH [] [0, 1, 2, 3, 4, 5, 6, 7, 8, 9, 10, 11, 12, 13, 14] [0, 1, 2, 3, 4, 5, 6, 7, 8, 9, 10, 11, 12, 13, 14] rfl rfl rfl rfl gX9_at_X9_in rfl ⟨rfl, rfl⟩ kX9_in ⟨Nat.le_of_ble_eq_true rfl, Nat.le_of_ble_eq_true rfl⟩ rfl rfl rfl hl.1 (Nat.le_of_ble_eq_true rfl) ⟨Nat.le_of_ble_eq_true rfl, Nat.le_of_ble_eq_true rfl⟩ dX9_at_17 (fun H locs hH => ?_)
  refine lv_if_ne (pc := 20) (tgt := 30) hx hb dX9_at_20 rfl (fun zc4 => ?_) (fun zc4 => ?_)
  · have h := zf zc4 h
    refine lv_aload_n (pc := 30) hx hb dX9_at_30 rfl (lv_at hl 0 rfl) ?_
    refine z_get (pc := 31) (v := .ref (mq 5)) X iX9_at_X9 hH 0 rfl rfl 5 rfl (List.mem_of_getElem? (i := 2) rfl) rfl dX9_at_31 ?_
    refine lv_bipush (v := 16) (pc := 34) hx hb dX9_at_34 zk_b16 ?_
    refine lv_iload_n (pc := 36) hx hb dX9_at_36 rfl (lv_at hl 1 rfl) ?_
    refine lv_imul (pc := 37) hx hb dX9_at_37 ?_
    refine lv_iload_n (pc := 38) hx hb dX9_at_38 rfl (lv_at hl 2 rfl) ?_
    refine lv_iadd (pc := 39) hx hb dX9_at_39 ?_
    obtain ⟨hin, h⟩ := zg h
    refine z_iald (pc := 40) X hH 5 rfl hin dX9_at_40 ?_
    obtain rfl := Option.some.inj h
    exact z_iret X hr hH dX9_at_41
  have h := zt zc4 h
  refine lv_aload_n (pc := 23) hx hb dX9_at_23 rfl (lv_at hl 0 rfl) ?_
  refine lv_iconst (v := 1) (pc := 24) hx hb dX9_at_24 zk_c1 ?_
  refine z_put (pc := 25) (v := .int 1) (ws' := wM cy mq m_hosts m_lost m_late m_wait m_per m_blocks m_sends m_many m_made m_madeMany m_lacking 1 m_now m_ahead m_then m_time m_timeThen m_isThere m_comes) X iX9_at_X9 tyX9 tyX9_ok nmX9 hH 0 rfl rfl 11 rfl (List.mem_of_getElem? (i := 1) rfl) rfl rfl rfl rfl rfl dX9_at_25 (fun H locs hH => ?_)
  refine lv_iconst (v := 0) (pc := 28) hx hb dX9_at_28 zk_c0 ?_
  obtain rfl := Option.some.inj h
  exact z_iret X hr hH dX9_at_29
set_option maxHeartbeats 4000000 in
set_option maxRecDepth 100000 in
theorem c_X9_live (l : Launch) (G : va_G) (cy : Nat → ClassId) (fu : Nat) (mq : Nat → Nat) (m_hosts : Int32) (m_lost : Nat → Int32) (m_late : Nat → Int32) (m_wait : Nat → Int32) (m_per : Nat → Int32) (m_blocks : Nat → Int32) (m_sends : Nat → Int32) (m_many : Int32) (m_made : Nat → Int32) (m_madeMany : Int32) (m_lacking : Int32) (m_thrown : Int32) (m_now : Nat → Int32) (m_ahead : Nat → Int32) (m_then : Nat → Int32) (m_time : Nat → Int32) (m_timeThen : Nat → Int32) (m_isThere : Nat → Int32) (m_comes : Nat → Int32) (x1 : Int32) (x2 : Int32) (rr : Int32 × (Nat → Int32) × Int32 × Int32) (h : f_X9_live fu m_hosts m_lost m_many x1 x2 = some rr) : zM l G cy yX9_live wsX9_live (zR 3 64) [.ref (mq 0), .int x1, .int x2] (wM cy mq m_hosts m_lost m_late m_wait m_per m_blocks m_sends m_many m_made m_madeMany m_lacking m_thrown m_now m_ahead m_then m_time m_timeThen m_isThere m_comes) (wM cy mq m_hosts rr.2.1 m_late m_wait m_per m_blocks m_sends rr.2.2.1 m_made m_madeMany m_lacking rr.2.2.2 m_now m_ahead m_then m_time m_timeThen m_isThere m_comes) (some (.int rr.1)) := by
  refine zM.mk (cc := cX9_live) (nL := 3) (ret := (some .boolean)) (by decide) rfl (Nat.le_of_ble_eq_true rfl) ?_
  intro p e s m below meth c A ls X hr hH hl
  replace X : zX p s m [.ref (mq 0), .int x1, .int x2].toArray meth c RX9 cX9_live 3 wsX9_live G cy A := X
  have hx := X.1.1
  have hb := X.1.2.1
  replace hl : lv_has ls 3 [(0, .ref (mq 0)), (1, .int x1), (2, .int x2)] := hl
  dsimp only [f_X9_live] at h
  refine lv_aload_n (pc := 0) hx hb dX9_live_0 rfl (lv_at hl 0 rfl) ?_
  refine lv_iconst (v := 0) (pc := 1) hx hb dX9_live_1 zk_c0 ?_
  refine z_put (pc := 2) (v := .int 0) (ws' := wM cy mq m_hosts m_lost m_late m_wait m_per m_blocks m_sends m_many m_made m_madeMany m_lacking 0 m_now m_ahead m_then m_time m_timeThen m_isThere m_comes) X iX9_live_X9 tyX9 tyX9_ok nmX9 hH 0 rfl rfl 11 rfl (List.mem_of_getElem? (i := 1) rfl) rfl rfl rfl rfl rfl dX9_live_2 (fun H locs hH => ?_)
  refine lv_aload_n (pc := 5) hx hb dX9_live_5 rfl (lv_at hl 0 rfl) ?_
  refine lv_iload_n (pc := 6) hx hb dX9_live_6 rfl (lv_at hl 1 rfl) ?_
  obtain ⟨zr1, hzr1, h⟩ := zb h
  refine zcV (pc := 7) (As := [.int x1]) (rest := []) (st1 := [.int zr1]) (ws' := wM cy mq m_hosts m_lost m_late m_wait m_per m_blocks m_sends m_many m_made m_madeMany m_lacking 0 m_now m_ahead m_then m_time m_timeThen m_isThere m_comes) (wr := []) (n := 1) (q0 := 0) X (c_X9_isHost l G cy fu mq m_hosts m_lost m_late m_wait m_per m_blocks m_sends m_many m_made m_madeMany m_lacking 0 m_now m_ahead m_then m_time m_timeThen m_isThere m_comes x1 zr1 hzr1) hH [0, 1, 2, 3, 4, 5, 6, 7, 8, 9, 10, 11, 12, 13, 14] [] [0, 1, 2, 3, 4, 5, 6, 7, 8, 9, 10, 11, 12, 13, 14] rfl rfl rfl rfl gX9_live_X9_isHost rfl ⟨rfl, rfl⟩ kX9_isHost ⟨Nat.le_of_ble_eq_true rfl, Nat.le_of_ble_eq_true rfl⟩ rfl rfl rfl rfl rfl hl.1 (Nat.le_of_ble_eq_true rfl) ⟨Nat.le_of_ble_eq_true rfl, Nat.le_of_ble_eq_true rfl⟩ dX9_live_7 (fun H locs hH => ?_)
  refine lv_if_eq (pc := 10) (tgt := 33) hx hb dX9_live_10 rfl (fun zc2 => ?_) (fun zc2 => ?_)
  · have h := zt zc2 h
    refine lv_iconst (v := 0) (pc := 33) hx hb dX9_live_33 zk_c0 ?_
    obtain rfl := Option.some.inj h
    exact z_zret X hr (Or.inl rfl) hH dX9_live_34
  have h := zf zc2 h
  refine lv_iload_n (pc := 13) hx hb dX9_live_13 rfl (lv_at hl 2 rfl) ?_
  refine lv_if_ne (pc := 14) (tgt := 35) hx hb dX9_live_14 rfl (fun zc3 => ?_) (fun zc3 => ?_)
  · have h := zf zc3 h
    refine lv_aload_n (pc := 35) hx hb dX9_live_35 rfl (lv_at hl 0 rfl) ?_
    refine z_get (pc := 36) (v := .ref (mq 1)) X iX9_live_X9 hH 0 rfl rfl 1 rfl (List.mem_of_getElem? (i := 2) rfl) rfl dX9_live_36 ?_
    refine lv_iload_n (pc := 39) hx hb dX9_live_39 rfl (lv_at hl 1 rfl) ?_
    refine lv_iload_n (pc := 40) hx hb dX9_live_40 rfl (lv_at hl 2 rfl) ?_
    refine lv_if_ne (pc := 41) (tgt := 48) hx hb dX9_live_41 rfl (fun zc4 => ?_) (fun zc4 => ?_)
    · refine lv_iconst (v := 0) (pc := 48) hx hb dX9_live_48 zk_c0 ?_
      obtain ⟨hin, h⟩ := zg h
      refine z_zast (pc := 49) (ws' := wM cy mq m_hosts (upd m_lost (x1).toNatClampNeg (vp_nar .boolean 0)) m_late m_wait m_per m_blocks m_sends m_many m_made m_madeMany m_lacking 0 m_now m_ahead m_then m_time m_timeThen m_isThere m_comes) X hH 1 rfl hin rfl dX9_live_49 (fun H locs hH => ?_)
      refine lv_aload_n (pc := 50) hx hb dX9_live_50 rfl (lv_at hl 0 rfl) ?_
      refine lv_iconst (v := 0) (pc := 51) hx hb dX9_live_51 zk_c0 ?_
      refine z_put (pc := 52) (v := .int 0) (ws' := wM cy mq m_hosts (upd m_lost (x1).toNatClampNeg (vp_nar .boolean 0)) m_late m_wait m_per m_blocks m_sends 0 m_made m_madeMany m_lacking 0 m_now m_ahead m_then m_time m_timeThen m_isThere m_comes) X iX9_live_X9 tyX9 tyX9_ok nmX9 hH 0 rfl rfl 7 rfl (List.mem_of_getElem? (i := 3) rfl) rfl rfl rfl rfl rfl dX9_live_52 (fun H locs hH => ?_)
      refine lv_iconst (v := 1) (pc := 55) hx hb dX9_live_55 zk_c1 ?_
      obtain rfl := Option.some.inj h
      exact z_zret X hr (Or.inr rfl) hH dX9_live_56
    exact absurd zc4 zc3
  have h := zt zc3 h
  refine lv_aload_n (pc := 17) hx hb dX9_live_17 rfl (lv_at hl 0 rfl) ?_
  refine lv_iload_n (pc := 18) hx hb dX9_live_18 rfl (lv_at hl 1 rfl) ?_
  obtain ⟨zr5, hzr5, h⟩ := zb h
  refine zcV (pc := 19) (As := [.int x1]) (rest := []) (st1 := [.int zr5]) (ws' := wM cy mq m_hosts m_lost m_late m_wait m_per m_blocks m_sends m_many m_made m_madeMany m_lacking 0 m_now m_ahead m_then m_time m_timeThen m_isThere m_comes) (wr := []) (n := 1) (q0 := 0) X (c_X9_isLive l G cy fu mq m_hosts m_lost m_late m_wait m_per m_blocks m_sends m_many m_made m_madeMany m_lacking 0 m_now m_ahead m_then m_time m_timeThen m_isThere m_comes x1 zr5 hzr5) hH [0, 1, 2, 3, 4, 5, 6, 7, 8, 9, 10, 11, 12, 13, 14] [] [0, 1, 2, 3, 4, 5, 6, 7, 8, 9, 10, 11, 12, 13, 14] rfl rfl rfl rfl gX9_live_X9_isLive rfl ⟨rfl, rfl⟩ kX9_isLive ⟨Nat.le_of_ble_eq_true rfl, Nat.le_of_ble_eq_true rfl⟩ rfl rfl rfl rfl rfl hl.1 (Nat.le_of_ble_eq_true rfl) ⟨Nat.le_of_ble_eq_true rfl, Nat.le_of_ble_eq_true rfl⟩ dX9_live_19 (fun H locs hH => ?_)
  refine lv_if_eq (pc := 22) (tgt := 35) hx hb dX9_live_22 rfl (fun zc6 => ?_) (fun zc6 => ?_)
  · have h := zt zc6 h
    refine lv_aload_n (pc := 35) hx hb dX9_live_35 rfl (lv_at hl 0 rfl) ?_
    refine z_get (pc := 36) (v := .ref (mq 1)) X iX9_live_X9 hH 0 rfl rfl 1 rfl (List.mem_of_getElem? (i := 2) rfl) rfl dX9_live_36 ?_
    refine lv_iload_n (pc := 39) hx hb dX9_live_39 rfl (lv_at hl 1 rfl) ?_
    refine lv_iload_n (pc := 40) hx hb dX9_live_40 rfl (lv_at hl 2 rfl) ?_
    refine lv_if_ne (pc := 41) (tgt := 48) hx hb dX9_live_41 rfl (fun zc7 => ?_) (fun zc7 => ?_)
    · exact absurd zc3 zc7
    refine lv_iconst (v := 1) (pc := 44) hx hb dX9_live_44 zk_c1 ?_
    refine lv_goto (pc := 45) (tgt := 49) hx hb dX9_live_45 rfl ?_
    obtain ⟨hin, h⟩ := zg h
    refine z_zast (pc := 49) (ws' := wM cy mq m_hosts (upd m_lost (x1).toNatClampNeg (vp_nar .boolean 1)) m_late m_wait m_per m_blocks m_sends m_many m_made m_madeMany m_lacking 0 m_now m_ahead m_then m_time m_timeThen m_isThere m_comes) X hH 1 rfl hin rfl dX9_live_49 (fun H locs hH => ?_)
    refine lv_aload_n (pc := 50) hx hb dX9_live_50 rfl (lv_at hl 0 rfl) ?_
    refine lv_iconst (v := 0) (pc := 51) hx hb dX9_live_51 zk_c0 ?_
    refine z_put (pc := 52) (v := .int 0) (ws' := wM cy mq m_hosts (upd m_lost (x1).toNatClampNeg (vp_nar .boolean 1)) m_late m_wait m_per m_blocks m_sends 0 m_made m_madeMany m_lacking 0 m_now m_ahead m_then m_time m_timeThen m_isThere m_comes) X iX9_live_X9 tyX9 tyX9_ok nmX9 hH 0 rfl rfl 7 rfl (List.mem_of_getElem? (i := 3) rfl) rfl rfl rfl rfl rfl dX9_live_52 (fun H locs hH => ?_)
    refine lv_iconst (v := 1) (pc := 55) hx hb dX9_live_55 zk_c1 ?_
    obtain rfl := Option.some.inj h
    exact z_zret X hr (Or.inr rfl) hH dX9_live_56
  have h := zf zc6 h
  refine lv_aload_n (pc := 25) hx hb dX9_live_25 rfl (lv_at hl 0 rfl) ?_
  obtain ⟨zr8, hzr8, h⟩ := zb h
  refine zcV (pc := 26) (As := []) (rest := []) (st1 := [.int zr8]) (ws' := wM cy mq m_hosts m_lost m_late m_wait m_per m_blocks m_sends m_many m_made m_madeMany m_lacking 0 m_now m_ahead m_then m_time m_timeThen m_isThere m_comes) (wr := []) (n := 0) (q0 := 0) X (c_X9_liveMany l G cy fu mq m_hosts m_lost m_late m_wait m_per m_blocks m_sends m_many m_made m_madeMany m_lacking 0 m_now m_ahead m_then m_time m_timeThen m_isThere m_comes zr8 hzr8) hH [0, 1, 2, 3, 4, 5, 6, 7, 8, 9, 10, 11, 12, 13, 14] [] [0, 1, 2, 3, 4, 5, 6, 7, 8, 9, 10, 11, 12, 13, 14] rfl rfl rfl rfl gX9_live_X9_liveMany rfl ⟨rfl, rfl⟩ kX9_liveMany ⟨Nat.le_of_ble_eq_true rfl, Nat.le_of_ble_eq_true rfl⟩ rfl rfl rfl rfl rfl hl.1 (Nat.le_of_ble_eq_true rfl) ⟨Nat.le_of_ble_eq_true rfl, Nat.le_of_ble_eq_true rfl⟩ dX9_live_26 (fun H locs hH => ?_)
  refine lv_iconst (v := 1) (pc := 29) hx hb dX9_live_29 zk_c1 ?_
  refine lv_icmp_ne (pc := 30) (tgt := 35) hx hb dX9_live_30 rfl (fun zc9 => ?_) (fun zc9 => ?_)
  · have h := zf zc9 h
    refine lv_aload_n (pc := 35) hx hb dX9_live_35 rfl (lv_at hl 0 rfl) ?_
    refine z_get (pc := 36) (v := .ref (mq 1)) X iX9_live_X9 hH 0 rfl rfl 1 rfl (List.mem_of_getElem? (i := 2) rfl) rfl dX9_live_36 ?_
    refine lv_iload_n (pc := 39) hx hb dX9_live_39 rfl (lv_at hl 1 rfl) ?_
    refine lv_iload_n (pc := 40) hx hb dX9_live_40 rfl (lv_at hl 2 rfl) ?_
    refine lv_if_ne (pc := 41) (tgt := 48) hx hb dX9_live_41 rfl (fun zc10 => ?_) (fun zc10 => ?_)
    · exact absurd zc3 zc10
    refine lv_iconst (v := 1) (pc := 44) hx hb dX9_live_44 zk_c1 ?_
    refine lv_goto (pc := 45) (tgt := 49) hx hb dX9_live_45 rfl ?_
    obtain ⟨hin, h⟩ := zg h
    refine z_zast (pc := 49) (ws' := wM cy mq m_hosts (upd m_lost (x1).toNatClampNeg (vp_nar .boolean 1)) m_late m_wait m_per m_blocks m_sends m_many m_made m_madeMany m_lacking 0 m_now m_ahead m_then m_time m_timeThen m_isThere m_comes) X hH 1 rfl hin rfl dX9_live_49 (fun H locs hH => ?_)
    refine lv_aload_n (pc := 50) hx hb dX9_live_50 rfl (lv_at hl 0 rfl) ?_
    refine lv_iconst (v := 0) (pc := 51) hx hb dX9_live_51 zk_c0 ?_
    refine z_put (pc := 52) (v := .int 0) (ws' := wM cy mq m_hosts (upd m_lost (x1).toNatClampNeg (vp_nar .boolean 1)) m_late m_wait m_per m_blocks m_sends 0 m_made m_madeMany m_lacking 0 m_now m_ahead m_then m_time m_timeThen m_isThere m_comes) X iX9_live_X9 tyX9 tyX9_ok nmX9 hH 0 rfl rfl 7 rfl (List.mem_of_getElem? (i := 3) rfl) rfl rfl rfl rfl rfl dX9_live_52 (fun H locs hH => ?_)
    refine lv_iconst (v := 1) (pc := 55) hx hb dX9_live_55 zk_c1 ?_
    obtain rfl := Option.some.inj h
    exact z_zret X hr (Or.inr rfl) hH dX9_live_56
  have h := zt zc9 h
  refine lv_iconst (v := 0) (pc := 33) hx hb dX9_live_33 zk_c0 ?_
  obtain rfl := Option.some.inj h
  exact z_zret X hr (Or.inl rfl) hH dX9_live_34
set_option maxHeartbeats 4000000 in
set_option maxRecDepth 100000 in
theorem c_X9_late (l : Launch) (G : va_G) (cy : Nat → ClassId) (fu : Nat) (mq : Nat → Nat) (m_hosts : Int32) (m_lost : Nat → Int32) (m_late : Nat → Int32) (m_wait : Nat → Int32) (m_per : Nat → Int32) (m_blocks : Nat → Int32) (m_sends : Nat → Int32) (m_many : Int32) (m_made : Nat → Int32) (m_madeMany : Int32) (m_lacking : Int32) (m_thrown : Int32) (m_now : Nat → Int32) (m_ahead : Nat → Int32) (m_then : Nat → Int32) (m_time : Nat → Int32) (m_timeThen : Nat → Int32) (m_isThere : Nat → Int32) (m_comes : Nat → Int32) (x1 : Int32) (x2 : Int32) (rr : Int32 × (Nat → Int32) × Int32) (h : f_X9_late fu m_hosts m_late x1 x2 = some rr) : zM l G cy yX9_late wsX9_late (zR 2 43) [.ref (mq 0), .int x1, .int x2] (wM cy mq m_hosts m_lost m_late m_wait m_per m_blocks m_sends m_many m_made m_madeMany m_lacking m_thrown m_now m_ahead m_then m_time m_timeThen m_isThere m_comes) (wM cy mq m_hosts m_lost rr.2.1 m_wait m_per m_blocks m_sends m_many m_made m_madeMany m_lacking rr.2.2 m_now m_ahead m_then m_time m_timeThen m_isThere m_comes) (some (.int rr.1)) := by
  refine zM.mk (cc := cX9_late) (nL := 3) (ret := (some .boolean)) (by decide) rfl (Nat.le_of_ble_eq_true rfl) ?_
  intro p e s m below meth c A ls X hr hH hl
  replace X : zX p s m [.ref (mq 0), .int x1, .int x2].toArray meth c RX9 cX9_late 3 wsX9_late G cy A := X
  have hx := X.1.1
  have hb := X.1.2.1
  replace hl : lv_has ls 3 [(0, .ref (mq 0)), (1, .int x1), (2, .int x2)] := hl
  dsimp only [f_X9_late] at h
  refine lv_aload_n (pc := 0) hx hb dX9_late_0 rfl (lv_at hl 0 rfl) ?_
  refine lv_iconst (v := 0) (pc := 1) hx hb dX9_late_1 zk_c0 ?_
  refine z_put (pc := 2) (v := .int 0) (ws' := wM cy mq m_hosts m_lost m_late m_wait m_per m_blocks m_sends m_many m_made m_madeMany m_lacking 0 m_now m_ahead m_then m_time m_timeThen m_isThere m_comes) X iX9_late_X9 tyX9 tyX9_ok nmX9 hH 0 rfl rfl 11 rfl (List.mem_of_getElem? (i := 1) rfl) rfl rfl rfl rfl rfl dX9_late_2 (fun H locs hH => ?_)
  refine lv_aload_n (pc := 5) hx hb dX9_late_5 rfl (lv_at hl 0 rfl) ?_
  refine lv_iload_n (pc := 6) hx hb dX9_late_6 rfl (lv_at hl 1 rfl) ?_
  obtain ⟨zr1, hzr1, h⟩ := zb h
  refine zcV (pc := 7) (As := [.int x1]) (rest := []) (st1 := [.int zr1]) (ws' := wM cy mq m_hosts m_lost m_late m_wait m_per m_blocks m_sends m_many m_made m_madeMany m_lacking 0 m_now m_ahead m_then m_time m_timeThen m_isThere m_comes) (wr := []) (n := 1) (q0 := 0) X (c_X9_isHost l G cy fu mq m_hosts m_lost m_late m_wait m_per m_blocks m_sends m_many m_made m_madeMany m_lacking 0 m_now m_ahead m_then m_time m_timeThen m_isThere m_comes x1 zr1 hzr1) hH [0, 1, 2, 3, 4, 5, 6, 7, 8, 9, 10, 11, 12, 13, 14] [] [0, 1, 2, 3, 4, 5, 6, 7, 8, 9, 10, 11, 12, 13, 14] rfl rfl rfl rfl gX9_late_X9_isHost rfl ⟨rfl, rfl⟩ kX9_isHost ⟨Nat.le_of_ble_eq_true rfl, Nat.le_of_ble_eq_true rfl⟩ rfl rfl rfl rfl rfl hl.1 (Nat.le_of_ble_eq_true rfl) ⟨Nat.le_of_ble_eq_true rfl, Nat.le_of_ble_eq_true rfl⟩ dX9_late_7 (fun H locs hH => ?_)
  refine lv_if_eq (pc := 10) (tgt := 23) hx hb dX9_late_10 rfl (fun zc2 => ?_) (fun zc2 => ?_)
  · have h := zt zc2 h
    refine lv_iconst (v := 0) (pc := 23) hx hb dX9_late_23 zk_c0 ?_
    obtain rfl := Option.some.inj h
    exact z_zret X hr (Or.inl rfl) hH dX9_late_24
  have h := zf zc2 h
  refine lv_iload_n (pc := 13) hx hb dX9_late_13 rfl (lv_at hl 2 rfl) ?_
  refine lv_iconst (v := 0) (pc := 14) hx hb dX9_late_14 zk_c0 ?_
  refine lv_ldc (pc := 15) (v := 100000) hx hb X.1.2.2.2.1 (X.1.2.2.2.2 _ (List.mem_of_getElem? (i := 2) rfl)) dX9_late_15 ?_
  obtain ⟨zr3, hzr3, h⟩ := zb h
  refine zcS (pc := 17) (As := [.int x2, .int 0, .int 100000]) (rest := []) (st1 := [.int zr3]) (ws' := wM cy mq m_hosts m_lost m_late m_wait m_per m_blocks m_sends m_many m_made m_madeMany m_lacking 0 m_now m_ahead m_then m_time m_timeThen m_isThere m_comes) (wr := [((mq 0), .inr (8, [.int m_hosts, .ref (mq 1), .ref (mq 2), .ref (mq 3), .ref (mq 4), .ref (mq 5), .ref (mq 6), .int m_many, .ref (mq 7), .int m_madeMany, .int m_lacking, .int 0, .ref (mq 8), .ref (mq 9), .ref (mq 10), .ref (mq 11), .ref (mq 12), .ref (mq 13), .ref (mq 14)])), ((mq 1), .inl (cy 2, 16, .inl m_lost)), ((mq 2), .inl (cy 0, 16, .inl m_late)), ((mq 3), .inl (cy 0, 256, .inl m_wait)), ((mq 4), .inl (cy 0, 256, .inl m_per)), ((mq 5), .inl (cy 0, 256, .inl m_blocks)), ((mq 6), .inl (cy 0, 7200, .inl m_sends)), ((mq 7), .inl (cy 0, 7200, .inl m_made)), ((mq 8), .inl (cy 3, 65536, .inl m_now)), ((mq 9), .inl (cy 3, 65536, .inl m_ahead)), ((mq 10), .inl (cy 0, 256, .inl m_then)), ((mq 11), .inl (cy 0, 16, .inl m_time)), ((mq 12), .inl (cy 0, 16, .inl m_timeThen)), ((mq 13), .inl (cy 2, 256, .inl m_isThere)), ((mq 14), .inl (cy 2, 256, .inl m_comes))]) (n := 3) X (c_X9_in l G cy fu x2 0 100000 zr3 hzr3) hH [] [0, 1, 2, 3, 4, 5, 6, 7, 8, 9, 10, 11, 12, 13, 14] [0, 1, 2, 3, 4, 5, 6, 7, 8, 9, 10, 11, 12, 13, 14] rfl rfl rfl rfl gX9_late_X9_in rfl ⟨rfl, rfl⟩ kX9_in ⟨Nat.le_of_ble_eq_true rfl, Nat.le_of_ble_eq_true rfl⟩ rfl rfl rfl hl.1 (Nat.le_of_ble_eq_true rfl) ⟨Nat.le_of_ble_eq_true rfl, Nat.le_of_ble_eq_true rfl⟩ dX9_late_17 (fun H locs hH => ?_)
  refine lv_if_ne (pc := 20) (tgt := 25) hx hb dX9_late_20 rfl (fun zc4 => ?_) (fun zc4 => ?_)
  · have h := zf zc4 h
    refine lv_aload_n (pc := 25) hx hb dX9_late_25 rfl (lv_at hl 0 rfl) ?_
    refine z_get (pc := 26) (v := .ref (mq 2)) X iX9_late_X9 hH 0 rfl rfl 2 rfl (List.mem_of_getElem? (i := 3) rfl) rfl dX9_late_26 ?_
    refine lv_iload_n (pc := 29) hx hb dX9_late_29 rfl (lv_at hl 1 rfl) ?_
    refine lv_iload_n (pc := 30) hx hb dX9_late_30 rfl (lv_at hl 2 rfl) ?_
    obtain ⟨hin, h⟩ := zg h
    refine z_iast (pc := 31) (ws' := wM cy mq m_hosts m_lost (upd m_late (x1).toNatClampNeg x2) m_wait m_per m_blocks m_sends m_many m_made m_madeMany m_lacking 0 m_now m_ahead m_then m_time m_timeThen m_isThere m_comes) X hH 2 rfl hin rfl dX9_late_31 (fun H locs hH => ?_)
    refine lv_iconst (v := 1) (pc := 32) hx hb dX9_late_32 zk_c1 ?_
    obtain rfl := Option.some.inj h
    exact z_zret X hr (Or.inr rfl) hH dX9_late_33
  have h := zt zc4 h
  refine lv_iconst (v := 0) (pc := 23) hx hb dX9_late_23 zk_c0 ?_
  obtain rfl := Option.some.inj h
  exact z_zret X hr (Or.inl rfl) hH dX9_late_24
